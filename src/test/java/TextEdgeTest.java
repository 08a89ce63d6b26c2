/** Edges of the texts: term 1, each under its words. */
final class TextEdgeTest {
    private static final int NONE = GraveRegatta.NONE;
    private static final int LAKE = 0;
    private static final int DAY = 1;
    private static final int NIGHT = 2;
    private static final int FOG = 3;
    private static final int LAW = 4;
    private static final String TERM = "term 1";
    /** Of each sort the words of its lines, and how many numbers follow. */
    private static final String[] WORDS = {
        "lake 2,raft 2,at 2,stiff 1,drag 1,float 1,rock 2,grave 2,wreath 1,mourner 3,leak 2,brothers 2",
        "stand 2,leave 1,wind 2,calm 0,frost 0,thaw 0,moor 0,cast 0,bail 1,hours 1",
        "lay 2", "dead 1", "grave 1,list 2,touch 2,water 1,odd 1,most 1"};

    private TextEdgeTest() {
    }

    static void run() {
        basics();
        places();
        things();
        rowsOfTheOthers();
        tape();
        bytes();
        tokens();
        lines();
        numbersOfDays();
        numbersOfTheOthers();
        laterOnes();
        firstFault();
        brothersTwice();
        tooMany();
        wholeLake();
        twoOfEachSort();
    }

    private static void says(String words) {
        Document.says(TERM, words);
    }

    /** The NUMBER between two pieces of a text can be from the least to the greatest, and no other. */
    private static void bounds(int sort, String before, String after, int least, int most) {
        for (int number : new int[] {0, least - 1, least, most, most + 1, 999}) {
            if (number >= 0 && number <= 999) {
                boolean can = number >= least && number <= most;
                Bench.dueFault(sort, before + number + after, can ? 0 : 2, can ? NONE : before.length());
            }
        }
    }

    private static void dueLake(String text, int what, int want) {
        Bench.due("lake " + what + " of <" + text + ">", Bench.told("lake:" + text).lake(0, what), want);
    }

    private static void basics() {
        says("A LAKE has CELLS x, y, below its WIDTH, HEIGHT, 2 .. 12 each (8 at first).");
        bounds(LAKE, "raft 1 1;lake ", " 12;", 2, 12);
        bounds(LAKE, "raft 1 1;lake 12 ", ";", 2, 12);
        dueLake("", 0, 8);
        dueLake("", 1, 8);
        GraveRegatta x = Bench.told("lake:lake 3 2;");
        Bench.due("the last cell", x.reach(0, 0, 2, 1), 0);
        Bench.due("x below WIDTH", x.reach(0, 0, 3, 1), NONE);
        Bench.due("y below HEIGHT", x.reach(0, 0, 2, 2), NONE);

        says("A RAFT, LONG, BROAD, 1 .. 4 each (3, 2), its first CELL (of least x, y) at X, Y, 0 .. 11 (0, 0);");
        bounds(LAKE, "raft ", " 1;", 1, 4);
        bounds(LAKE, "raft 1 ", ";", 1, 4);
        bounds(LAKE, "raft 1 1;lake 12 12;at ", " 0;", 0, 11);
        bounds(LAKE, "raft 1 1;lake 12 12;at 0 ", ";", 0, 11);
        int[] atFirst = {3, 2, 0, 0};
        for (int what = 2; what <= 5; what++) {
            dueLake("", what, atFirst[what - 2]);
        }
        dueLake("raft 1 4;at 7 4;", 2, 1);
        dueLake("raft 1 4;at 7 4;", 3, 4);
        // from its first cell to the right and down
        Bench.dueFault(LAKE, "at 2 2;rock 1 2;rock 2 1;", 0, NONE);
        Bench.dueFault(LAKE, "at 2 2;rock 4 3;", 6, 16);

        says("STIFF, 0 .. 99 (5);");
        bounds(LAKE, "stiff ", ";", 0, 99);
        dueLake("", 6, 5);
        dueLake("stiff 0;", 6, 0);
        dueLake("stiff 99;", 6, 99);
        says("DRAG, 1 .. 99 (4);");
        bounds(LAKE, "drag ", ";", 1, 99);
        dueLake("", 7, 4);
        dueLake("drag 99;", 7, 99);
        says("FLOAT, 1 .. 99 (40);");
        bounds(LAKE, "float ", ";", 1, 99);
        dueLake("", 8, 40);
        dueLake("float 1;", 8, 1);
    }

    private static void places() {
        says("its PLACES: column by row, 0 .. LONG * BROAD less 1, row by row.");
        int[][] listsX = {{0}, {-1, 1}, {-2, 0, 2}, {-3, -1, 1, 3}};
        for (int columns = 1; columns <= 4; columns++) {
            for (int rows = 1; rows <= 4; rows++) {
                for (int place = 0; place < columns * rows; place++) {
                    String raft = "raft " + columns + " " + rows + ";grave " + place + " 1;";
                    GraveRegatta x = Bench.told("lake:" + raft, "day:");
                    Bench.due(raft + " list of x", x.list(0, 0, 0, 0), listsX[columns - 1][place % columns]);
                    Bench.due(raft + " list of y", x.list(0, 0, 0, 1), listsX[rows - 1][place / columns]);
                    Bench.due(raft + " water on it", x.state(0, 0, 0, 30 + place), 0);
                }
                String beyond = "raft " + columns + " " + rows + ";grave " + columns * rows + " 1;";
                if (columns * rows < 16) {
                    Bench.dueFault(LAKE, beyond, 5, beyond.length());
                }
                Bench.due("no water beyond", Bench.told("lake:raft " + columns + " " + rows + ";", "day:")
                        .state(0, 0, 0, 30 + columns * rows), -2);
            }
        }
    }

    private static void things() {
        says("ROCKS, at most 20, CELLS;");
        Bench.dueFault(LAKE, "rock 7 7;".repeat(20), 0, NONE);
        Bench.dueFault(LAKE, "rock 7 7;".repeat(21), 3, 180);
        dueLake("rock 6 7;".repeat(20), 39, 6);
        dueLake("rock 6 7;".repeat(20), 59, 7);
        // told twice it is a rock still
        Bench.due("a rock told twice", Bench.told("lake:raft 2 1;grave 1 9;rock 2 0;rock 2 0;").reach(0, 1, 1, 0), 0);
        dueLake("", 11, 0);
        says("GRAVES, at most 12, from 0 on: a PLACE, a WEIGHT, 1 .. 30;");
        Bench.dueFault(LAKE, "grave 0 1;".repeat(12), 0, NONE);
        Bench.dueFault(LAKE, "grave 0 1;".repeat(13), 3, 120);
        bounds(LAKE, "grave 0 ", ";", 1, 30);
        dueLake("grave 5 30;grave 0 1;", 60, 5);
        dueLake("grave 5 30;grave 0 1;", 81, 1);
        says("WREATHS, at most 6, from 0 on: a SIZE, 1 .. 9;");
        Bench.dueFault(LAKE, "wreath 1;".repeat(6), 0, NONE);
        Bench.dueFault(LAKE, "wreath 1;".repeat(7), 3, 54);
        bounds(LAKE, "wreath ", ";", 1, 9);
        dueLake("wreath 9;wreath 1;", 100, 9);
        says("MOURNERS, at most 5, from 0 on: a WEIGHT, 1 .. 6, TEARS, 0 .. 9, KIN, 0 or 1;");
        Bench.dueFault(LAKE, "mourner 1 0 0;".repeat(5), 0, NONE);
        Bench.dueFault(LAKE, "mourner 1 0 0;".repeat(6), 3, 70);
        bounds(LAKE, "mourner ", " 0 0;", 1, 6);
        bounds(LAKE, "mourner 1 ", " 0;", 0, 9);
        bounds(LAKE, "mourner 1 0 ", ";", 0, 1);
        dueLake("mourner 6 9 1;mourner 1 0 0;", 110, 6);
        dueLake("mourner 6 9 1;mourner 1 0 0;", 121, 0);
        says("LEAKS, at most 4, from 0 on: a PLACE, a RATE, 1 .. 9;");
        Bench.dueFault(LAKE, "leak 0 1;".repeat(4), 0, NONE);
        Bench.dueFault(LAKE, "leak 0 1;".repeat(5), 3, 36);
        bounds(LAKE, "leak 0 ", ";", 1, 9);
        dueLake("leak 5 9;leak 0 1;", 140, 5);
        says("BROTHERS: two SIDES, 0 up (y 0), 1 right, 2 down, 3 left (1 and 3 at first).");
        dueLake("", 9, 1);
        dueLake("", 10, 3);
        // a raft that lies at one side only, and a brother on each side
        String[] corners = {"at 3 0;", "at 5 3;", "at 3 6;", "at 0 3;"};
        for (int side = 0; side < 4; side++) {
            Bench.due("lying at " + side, Bench.told("lake:" + corners[side], "day:").state(0, 0, 0, 4), 1 << side);
        }
    }

    private static void rowsOfTheOthers() {
        says("A DAY has DEEDS, at most 40, from 0 on.");
        GraveRegatta x = Bench.told("day:" + "moor;cast;".repeat(20), "night:" + "lay 1 2;".repeat(7) + "lay 3 4;",
                "fog:" + "dead 7;".repeat(7) + "dead 0;", "law:" + "odd 5;".repeat(7) + "most 6;");
        Bench.due("the first", x.deed(0, 0, 0), 6);
        Bench.due("the last", x.deed(0, 39, 0), 7);
        Bench.due("beyond", x.deed(0, 40, 0), -2);
        Bench.dueFault(DAY, "moor;cast;".repeat(20) + "moor;", 3, 200);
        says("A NIGHT has SIGHTS, at most 8, from 0 on: X, Y.");
        Bench.due("the first's x", x.sight(0, 0, 0), 1);
        Bench.due("the last's y", x.sight(0, 7, 1), 4);
        Bench.due("beyond", x.sight(0, 8, 0), -2);
        Bench.dueFault(NIGHT, "lay 1 2;".repeat(9), 3, 64);
        says("A FOG has DEAD, 0 .. 7, at most 8, of each the GRAVES, 0 .. 7, that may be his.");
        Bench.due("the first", x.dead(0, 0), 128);
        Bench.due("the last", x.dead(0, 7), 1);
        Bench.due("beyond", x.dead(0, 8), -2);
        Bench.dueFault(FOG, "dead 7;".repeat(9), 3, 56);
        bounds(FOG, "dead ", ";", 0, 7);
        bounds(FOG, "dead 6 ", ";", 0, 5);
        bounds(FOG, "dead 0 1 2 3 4 5 6 ", ";", 7, 7);
        says("A LAW has TERMS, at most 8, from 0 on.");
        Bench.due("the first", x.term(0, 0, 1), 5);
        Bench.due("the last", x.term(0, 7, 0), 5);
        Bench.due("beyond", x.term(0, 8, 0), -2);
        Bench.dueFault(LAW, "odd 5;".repeat(9), 3, 48);
    }

    private static void tape() {
        says("THE TAPE has at most 600 bytes.");
        GraveRegatta x = new GraveRegatta();
        String text = "moor;" + " ".repeat(590) + "cast;";
        Bench.tape(x, text);
        Bench.due("all of it", x.end(600), 600);
        Bench.due("no more", x.feed(0, 0, 0, 0, 0), NONE);
        Bench.due("a text of 600 bytes", x.text(DAY, NONE), 0);
        Bench.due("its end is read", x.deed(0, NONE, 0), 2);
        Bench.dueFault(DAY, "moor;" + "\n".repeat(595), 0, NONE);
        Bench.dueFault(DAY, "moor;" + "\n".repeat(594) + "?", 1, 599);
        Bench.dueFault(DAY, "moor" + "\n".repeat(596), 1, 600);
        Bench.dueFault(LAKE, "at 9 9;" + " ".repeat(593), 4, 600);
    }

    private static void bytes() {
        says("TOKENS, as long as they go, blanks (10, 32) between: words, rows of letters a .. z;");
        for (int sign = 0; sign < 256; sign++) {
            char one = (char) sign;
            boolean isBlank = sign == 10 || sign == 32;
            boolean isLetter = one >= 'a' && one <= 'z';
            // in front of a line: but for a blank no text goes on
            Bench.dueFault(DAY, one + "moor;", isBlank ? 0 : 1, isBlank ? NONE : 0);
            // behind a word: a letter makes it another word, a semicolon ends the line
            int place = isLetter ? 0 : one == ';' ? 5 : 4;
            Bench.dueFault(DAY, "moor" + one + ";", isBlank ? 0 : 1, isBlank ? NONE : place);
            // where a number is due
            boolean isDigit = one >= '1' && one <= '9';
            int fault = isDigit ? 0 : one == '0' ? 2 : 1;
            Bench.dueFault(DAY, "hours " + one + ";", fault, isDigit ? NONE : isBlank ? 7 : 6);
            // behind all
            Bench.dueFault(DAY, "moor;" + one, isBlank ? 0 : 1, isBlank ? NONE : 5);
        }
    }

    private static void tokens() {
        says("words, rows of letters a .. z;");
        Bench.dueFault(DAY, "moorcast;", 1, 0);
        Bench.dueFault(DAY, "mo or;", 1, 0);
        Bench.dueFault(DAY, "moor;castmoor;", 1, 5);
        Bench.dueFault(DAY, "moo;", 1, 0);
        Bench.dueFault(DAY, "moors;", 1, 0);
        Bench.dueFault(DAY, "MOOR;", 1, 0);
        says("NUMBERS, 1 to 3 digits;");
        Bench.dueFault(LAW, "list 1 1;list 12 12;list 123 1;list 001 099;", 0, NONE);
        Bench.dueFault(LAW, "list 1234 1;", 1, 5);
        Bench.dueFault(LAW, "list 0001 1;", 1, 5);
        Bench.dueFault(LAW, "list 1 0000;", 1, 7);
        Bench.dueFault(LAW, "list 1 12345678901234567890;", 1, 7);
        Bench.dueFault(LAW, "list 12 3 4;", 1, 10);
        GraveRegatta x = Bench.told("law:list 007 010;");
        Bench.due("noughts ahead", x.term(0, 0, 1), 7);
        Bench.due("noughts ahead", x.term(0, 0, 2), 10);
        says("; one byte.");
        Bench.dueFault(DAY, "moor;;", 1, 5);
        Bench.dueFault(DAY, ";", 1, 0);
        Bench.dueFault(DAY, " ;moor;", 1, 1);
        says("blanks (10, 32) between");
        Bench.dueFault(LAW, " \n list \n\n 1\n2 ; \n", 0, NONE);
        Bench.dueFault(LAW, "list1 2;odd3;", 0, NONE);
        Bench.dueFault(LAW, "list 1 2x;", 1, 8);
        Bench.dueFault(LAW, "\n  list 1 2 x;", 1, 12);
    }

    private static void lines() {
        String[] parts = {"A LAKE's text: {(", "A DAY's text: {(", "A NIGHT's text: {'lay' NUMBER NUMBER ';'}",
            "A FOG's text: {'dead' NUMBER {NUMBER} ';'}", "A LAW's text: {("};
        for (int sort = 0; sort < 5; sort++) {
            says(parts[sort]);
            Bench.dueFault(sort, "", 0, NONE);
            Bench.dueFault(sort, "\n", 0, NONE);
            for (int other = 0; other < 5; other++) {
                for (String rule : WORDS[other].split(",")) {
                    String word = rule.split(" ")[0];
                    if (!("," + WORDS[sort]).contains("," + word + " ")) {
                        Bench.dueFault(sort, word + " 1 1;", 1, 0);
                        Bench.dueFault(sort, word + ";", 1, 0);
                    }
                }
            }
            for (String rule : WORDS[sort].split(",")) {
                numbersOfLine(sort, rule.split(" ")[0], Integer.parseInt(rule.split(" ")[1]));
            }
        }
        says("{NUMBER} ';'}");
        Bench.dueFault(FOG, "dead 1;dead 1 2;dead 0 1 2 3 4 5 6 7;", 0, NONE);
        Bench.dueFault(FOG, "dead ;", 1, 5);
        Bench.dueFault(FOG, "dead 1 2", 1, 8);
        Bench.dueFault(FOG, "dead 1 2 dead 3;", 1, 9);
        Bench.dueFault(FOG, "dead 0 1 2 3 4 5 6 7 0;", 2, 21);
        Bench.dueFault(FOG, "dead" + " 1".repeat(297) + ";", 2, 7);
    }

    /** A line with one number less, with one more, and cut off anywhere. */
    private static void numbersOfLine(int sort, String word, int numbers) {
        String line = word + " 1".repeat(numbers);
        if (numbers > 0) {
            Bench.dueFault(sort, word + " 1".repeat(numbers - 1) + ";", 1, line.length() - 2);
            Bench.dueFault(sort, word + " ; 1 1;", 1, word.length() + 1);
            Bench.dueFault(sort, word + ";" + line + ";", 1, word.length());
        }
        if (sort != FOG) {
            Bench.dueFault(sort, line + " 1;", 1, line.length() + 1);
        }
        Bench.dueFault(sort, line + word + ";", 1, numbers > 0 ? line.length() : 0);
        for (int cut = 1; cut <= line.length(); cut++) {
            Bench.dueFault(sort, line.substring(0, cut), 1, cut < word.length() ? 0 : cut);
        }
    }

    private static void numbersOfDays() {
        says("(lake: WIDTH, HEIGHT; raft: LONG, BROAD; at: X, Y;");
        String[] texts = {"lake 9 8;", "raft 2 1;", "at 2 1;"};
        int[][] want = {{9, 8}, {2, 1}, {2, 1}};
        for (int k = 0; k < 3; k++) {
            dueLake(texts[k], 2 * k, want[k][0]);
            dueLake(texts[k], 2 * k + 1, want[k][1]);
        }
        says("mourner: WEIGHT, TEARS, KIN;");
        int[] people = {6, 9, 1};
        for (int k = 0; k < 3; k++) {
            dueLake("mourner 6 9 1;", 110 + 10 * k, people[k]);
        }
        says("brothers: SIDES, another one each)");
        dueLake("brothers 3 0;", 9, 3);
        dueLake("brothers 3 0;", 10, 0);
        Bench.dueFault(LAKE, "brothers 4 2;", 2, 9);
        Bench.dueFault(LAKE, "brothers 999 2;", 2, 9);
        bounds(LAKE, "brothers 0 ", ";", 1, 3);
        says("rock: x, y, 0 .. 11;");
        bounds(LAKE, "lake 12 12;at 4 4;rock ", " 0;", 0, 11);
        bounds(LAKE, "lake 12 12;at 4 4;rock 0 ", ";", 0, 11);
        says("grave: PLACE, 0 .. 15, WEIGHT;");
        bounds(LAKE, "raft 4 4;grave ", " 1;", 0, 15);
        says("leak: PLACE, RATE;");
        bounds(LAKE, "raft 4 4;leak ", " 1;", 0, 15);
        says("(stand: a MOURNER, 0 .. 4, a PLACE, 0 .. 15;");
        bounds(DAY, "stand ", " 0;", 0, 4);
        bounds(DAY, "stand 0 ", ";", 0, 15);
        says("leave: a MOURNER;");
        bounds(DAY, "leave ", ";", 0, 4);
        says("wind: a WAY, as SIDES, a FORCE, 1 .. 9;");
        bounds(DAY, "wind ", " 1;", 0, 3);
        bounds(DAY, "wind 0 ", ";", 1, 9);
        says("bail: a PLACE;");
        bounds(DAY, "bail ", ";", 0, 15);
        says("hours: 1 .. 9)");
        bounds(DAY, "hours ", ";", 1, 9);
    }

    private static void numbersOfTheOthers() {
        says("(0 .. 11 each)");
        bounds(NIGHT, "lay ", " 0;", 0, 11);
        bounds(NIGHT, "lay 0 ", ";", 0, 11);
        says("(of the next of the DEAD, from 0 on: GRAVES)");
        GraveRegatta x = Bench.told("fog:dead 3;dead 2 0;");
        Bench.due("the first", x.dead(0, 0), 8);
        Bench.due("the next", x.dead(0, 1), 5);
        says("(grave: pence for each WEIGHT of GRAVES, 0 .. 9;");
        bounds(LAW, "grave ", ";", 0, 9);
        says("list: a number, 0 .. 999, pence, 0 .. 99;");
        bounds(LAW, "list ", " 0;", 0, 999);
        bounds(LAW, "list 0 ", ";", 0, 99);
        says("touch: a SIDE, pence, 0 .. 99;");
        bounds(LAW, "touch ", " 0;", 0, 3);
        bounds(LAW, "touch 0 ", ";", 0, 99);
        says("water: pence for each of WATER, 0 .. 9;");
        bounds(LAW, "water ", ";", 0, 9);
        says("odd: pence, 0 .. 99;");
        bounds(LAW, "odd ", ";", 0, 99);
        says("most: pence, 0 .. 999)");
        bounds(LAW, "most ", ";", 0, 999);
    }

    private static void laterOnes() {
        says("Later ones strike, but ROCKS, GRAVES, WREATHS, MOURNERS, LEAKS, DEEDS, SIGHTS, DEAD, TERMS, which are further "
                + "ones.");
        String[] twice = {"lake 9 10;lake 11 12;", "raft 1 1;raft 2 3;", "at 1 1;at 2 3;", "stiff 1;stiff 2;",
            "drag 1;drag 2;", "float 1;float 2;", "brothers 0 1;brothers 2 3;"};
        int[][] want = {{0, 11, 12}, {2, 2, 3}, {4, 2, 3}, {6, 2}, {7, 2}, {8, 2}, {9, 2, 3}};
        for (int k = 0; k < twice.length; k++) {
            for (int n = 1; n < want[k].length; n++) {
                dueLake(twice[k], want[k][0] + n - 1, want[k][n]);
            }
        }
        String[] further = {"rock 7 7;", "grave 0 1;", "wreath 1;", "mourner 1 1 1;", "leak 0 1;"};
        for (int k = 0; k < further.length; k++) {
            dueLake(further[k].repeat(2), 11 + k, 2);
        }
        GraveRegatta x = Bench.told("day:moor;moor;", "night:lay 1 1;lay 1 1;", "fog:dead 1;dead 1;", "law:odd 1;odd 1;");
        Bench.due("DEEDS", x.deed(0, NONE, 0), 2);
        Bench.due("SIGHTS", x.sight(0, NONE, 0), 2);
        Bench.due("DEAD", x.dead(0, NONE), 2);
        Bench.due("TERMS", x.term(0, NONE, 0), 2);
        // one that would not do, and is struck by a later one that does
        Bench.dueFault(LAKE, "at 9 9;grave 15 1;rock 11 11;at 0 0;raft 4 4;lake 12 12;", 0, NONE);
    }

    private static void firstFault() {
        says("FAULTS of all, with places (a token's first byte; the end's): 1 the first byte or token with which no text goes "
                + "on (a longer row of digits is no token).");
        Bench.dueFault(LAKE, "  drag x;", 1, 7);
        Bench.dueFault(LAKE, "  drag 1 ?", 1, 9);
        Bench.dueFault(LAKE, "  drag", 1, 6);
        Bench.dueFault(LAKE, "  drag  \n ", 1, 10);
        Bench.dueFault(LAKE, "drag  1000;", 1, 6);
        Bench.dueFault(LAKE, "drag 1;1000", 1, 7);
        Bench.dueFault(LAKE, "?" + "drag ?;", 1, 0);
        // it comes before any other fault, wherever it is
        Bench.dueFault(LAKE, "drag 0;drag", 1, 11);
        Bench.dueFault(LAKE, "wreath 1;".repeat(7) + "drag", 1, 67);
        Bench.dueFault(LAKE, "at 9 9;grave 15 1;?", 1, 18);
        Bench.dueFault(LAKE, "at 9 9;drag 0 0;", 1, 14);
        says("If there is none, the first by place, of one place the least:");
        Bench.dueFault(LAKE, "drag 0;stiff 100;", 2, 5);
        Bench.dueFault(LAKE, "mourner 7 10 2;", 2, 8);
        Bench.dueFault(LAKE, "mourner 6 10 2;", 2, 10);
        Bench.dueFault(LAKE, "mourner 6 9 2;", 2, 12);
        Bench.dueFault(LAKE, "drag 0;" + "wreath 1;".repeat(7), 2, 5);
        Bench.dueFault(LAKE, "wreath 1;".repeat(7) + "drag 0;", 3, 54);
        Bench.dueFault(LAKE, "wreath 1;".repeat(6) + "wreath 0;", 3, 54);
        Bench.dueFault(LAKE, "leak 0 1;".repeat(5) + "wreath 1;".repeat(7), 3, 36);
        says("2 a NUMBER that can't be (as above;");
        Bench.dueFault(LAKE, "lake 1 13;", 2, 5);
        Bench.dueFault(LAKE, "at 9 9;drag 0;", 2, 12);
        Bench.dueFault(LAKE, "drag 0;drag 1;", 2, 5);
    }

    private static void brothersTwice() {
        says("of brothers the second one, if it is the first;");
        for (int side = 0; side < 4; side++) {
            for (int other = 0; other < 4; other++) {
                boolean isSame = side == other;
                Bench.dueFault(LAKE, "brothers " + side + " " + other + ";", isSame ? 2 : 0, isSame ? 11 : NONE);
            }
        }
        Bench.dueFault(LAKE, "brothers 4 0;", 2, 9);
        Bench.dueFault(LAKE, "brothers 0 4;", 2, 11);
        Bench.dueFault(LAKE, "brothers 4 4;", 2, 9);
        Bench.dueFault(LAKE, "brothers 1 1;brothers 0 1;", 2, 11);
        Bench.dueFault(LAKE, "brothers 1 01;", 2, 11);
        // other pairs may be the same
        Bench.dueFault(LAKE, "lake 9 9;raft 2 2;at 3 3;rock 8 8;grave 1 1;mourner 1 1 1;leak 1 1;", 0, NONE);
        says("a GRAVE told twice of one of the DEAD;");
        Bench.dueFault(FOG, "dead 0 0;", 2, 7);
        Bench.dueFault(FOG, "dead 7 7;", 2, 7);
        Bench.dueFault(FOG, "dead 3 4 3;", 2, 9);
        Bench.dueFault(FOG, "dead 3 4 004;", 2, 9);
        Bench.dueFault(FOG, "dead 3;dead 3;", 0, NONE);
        Bench.dueFault(FOG, "dead 3 8 3;", 2, 7);
        Bench.dueFault(FOG, "dead 8 3;", 2, 5);
        Bench.dueFault(FOG, "dead 8 8 8;dead 0 0;", 2, 5);
        Bench.dueFault(FOG, "dead 8 3 x;", 1, 9);
        says("a line with such a NUMBER tells its ROCK, GRAVE, WREATH, MOURNER, LEAK, DEED, SIGHT, DEAD, TERM all the same);");
        // it is one of the lines that there may be; the number's place comes first
        String[] lines = {"rock 7 12;", "grave 0 0;", "wreath 0;", "mourner 0 0 0;", "leak 0 0;"};
        int[] most = {20, 12, 6, 5, 4};
        int[] places = {7, 8, 7, 8, 7};
        for (int k = 0; k < lines.length; k++) {
            Bench.dueFault(LAKE, lines[k].repeat(most[k] + 1), 2, places[k]);
        }
        Bench.dueFault(NIGHT, "lay 0 12;" + "lay 0 0;".repeat(8), 2, 6);
        Bench.dueFault(FOG, "dead 8;" + "dead 0;".repeat(8), 2, 5);
    }

    private static void tooMany() {
        says("3 a 21st ROCK, a 13th GRAVE, a 7th WREATH, a 6th MOURNER, a 5th LEAK, a 41st DEED, a 9th SIGHT, a 9th of the "
                + "DEAD, a 9th TERM, at its first token.");
        String[] lines = {"rock 7 7;", "grave 0 1;", "wreath 1;", "mourner 1 0 0;", "leak 0 1;"};
        int[] most = {20, 12, 6, 5, 4};
        for (int k = 0; k < lines.length; k++) {
            String full = lines[k].repeat(most[k]);
            Bench.dueFault(LAKE, full, 0, NONE);
            Bench.dueFault(LAKE, full + lines[k], 3, full.length());
            Bench.dueFault(LAKE, full + " \n" + lines[k] + lines[k], 3, full.length() + 2);
            // others do not count, and basics are never too many
            Bench.dueFault(LAKE, full + lines[(k + 1) % 5] + "drag 1;".repeat(20), 0, NONE);
            Bench.dueFault(LAKE, lines[(k + 1) % 5] + full + lines[k], 3, full.length() + lines[(k + 1) % 5].length());
        }
        Bench.dueFault(DAY, "moor;calm;frost;thaw;cast;".repeat(8), 0, NONE);
        Bench.dueFault(DAY, "moor;calm;frost;thaw;cast;".repeat(8) + "hours 1;", 3, 208);
        Bench.dueFault(NIGHT, "lay 0 0;".repeat(8) + " lay 0 0;", 3, 65);
        Bench.dueFault(FOG, "dead 0;".repeat(8) + " dead 0;", 3, 57);
        Bench.dueFault(LAW, "odd 0;most 0;".repeat(4), 0, NONE);
        Bench.dueFault(LAW, "odd 0;most 0;".repeat(4) + "water 1;", 3, 52);
    }

    private static void wholeLake() {
        says("If there is none of these, at the end's place: 4 of a LAKE: the RAFT is not all in it;");
        String[][] inside = {{"at 5 6;", "at 6 6;"}, {"at 5 6;", "at 5 7;"}, {"lake 3 2;", "lake 2 2;"},
            {"raft 1 4;lake 2 4;", "raft 1 4;lake 2 3;"}, {"raft 4 1;lake 4 2;", "raft 4 1;lake 3 2;"},
            {"lake 12 12;raft 1 1;at 11 11;", "lake 11 12;raft 1 1;at 11 11;"},
            {"lake 12 12;raft 1 1;at 11 11;", "lake 12 11;raft 1 1;at 11 11;"}};
        for (String[] one : inside) {
            Bench.dueFault(LAKE, one[0], 0, NONE);
            Bench.dueFault(LAKE, one[1], 4, one[1].length());
            Bench.dueFault(LAKE, one[1] + " \n", 4, one[1].length() + 2);
        }
        says("else 5 a GRAVE or LEAK on a PLACE that there is not;");
        Bench.dueFault(LAKE, "grave 5 1;leak 5 1;", 0, NONE);
        Bench.dueFault(LAKE, "grave 0 1;grave 6 1;grave 0 1;", 5, 30);
        Bench.dueFault(LAKE, "leak 0 1;leak 6 1;leak 0 1;", 5, 27);
        Bench.dueFault(LAKE, "grave 5 1;raft 1 1;", 5, 19);
        Bench.dueFault(LAKE, "grave 1 1;raft 1 1;", 5, 19);
        Bench.dueFault(LAKE, "leak 0 1;grave 0 1;raft 1 1;", 0, NONE);
        says("else 6 a ROCK out of it, or under the RAFT.");
        for (int column = 1; column <= 6; column++) {
            for (int row = 1; row <= 5; row++) {
                String text = "at 2 2;rock " + column + " " + row + ";";
                boolean isUnder = column >= 2 && column <= 4 && row >= 2 && row <= 3;
                Bench.dueFault(LAKE, text, isUnder ? 6 : 0, isUnder ? text.length() : NONE);
            }
        }
        Bench.dueFault(LAKE, "rock 7 7;", 0, NONE);
        Bench.dueFault(LAKE, "rock 8 7;", 6, 9);
        Bench.dueFault(LAKE, "rock 7 8;", 6, 9);
        Bench.dueFault(LAKE, "lake 12 12;rock 11 11;", 0, NONE);
        Bench.dueFault(LAKE, "rock 7 7;".repeat(19) + "rock 0 0;", 6, 180);
        says("4 of a LAKE: the RAFT is not all in it; else 5 a GRAVE or LEAK on a PLACE that there is not; else 6 a ROCK");
        Bench.dueFault(LAKE, "rock 11 11;grave 9 1;at 9 0;", 4, 28);
        Bench.dueFault(LAKE, "rock 11 11;grave 9 1;", 5, 21);
        Bench.dueFault(LAKE, "rock 11 11;leak 9 1;", 5, 20);
        Bench.dueFault(LAKE, "rock 11 11;", 6, 11);
        Bench.dueFault(LAKE, "rock 11 11;grave 9 1;at 9 0;drag 0;", 2, 33);
        Bench.dueFault(DAY, "stand 4 15;bail 15;", 0, NONE);
    }

    private static void twoOfEachSort() {
        says("LAKES, at most 2 (sort 0), DAYS, at most 2 (1), NIGHTS, at most 2 (2), FOGS, at most 2 (3), LAWS, at most 2 (4), "
                + "from 0 on.");
        String[] texts = {"drag 9;", "moor;", "lay 1 1;", "dead 1;", "odd 1;"};
        for (int sort = 0; sort < 5; sort++) {
            GraveRegatta x = new GraveRegatta();
            Bench.due("the first of sort " + sort, Bench.tell(x, sort, NONE, texts[sort]), 0);
            Bench.due("the second of sort " + sort, Bench.tell(x, sort, NONE, texts[sort]), 1);
            Bench.due("no third of sort " + sort, Bench.tell(x, sort, NONE, texts[sort]), -2);
            for (int other = 0; other < 5; other++) {
                Bench.due("how many of sort " + other, x.count(other), other == sort ? 2 : 0);
            }
        }
    }
}
