import java.util.ArrayList;
import java.util.List;
import java.util.Random;
import java.util.Set;

/** Lakes, days, nights, fogs, laws by chance: every answer is the oracle's. */
final class OracleTest {
    private static final int NONE = GraveRegatta.NONE;

    private OracleTest() {
    }

    static void run() {
        for (int seed = 1; seed <= 400; seed++) {
            Random random = new Random(seed);
            lakesAndDays(random, "days " + seed);
            if (seed <= 150) {
                sending(random, "sending " + seed);
                nights(random, "nights " + seed);
                fogs(random, "fogs " + seed);
                leaks(random, "leaks " + seed);
            }
            meeting(random, "meeting " + seed);
        }
    }

    private static final Retold RETOLD = new Retold();

    private static Retold told(String... texts) {
        RETOLD.tell(texts);
        return RETOLD;
    }

    private static int from(Random random, int least, int most) {
        return least + random.nextInt(most - least + 1);
    }

    static Oracle.Water lake(Random random, int mostMourners) {
        Oracle.Water water = new Oracle.Water();
        water.width = from(random, 4, random.nextBoolean() ? 6 : 12);
        water.height = from(random, 4, random.nextBoolean() ? 6 : 12);
        water.columns = from(random, 1, 4);
        water.rows = from(random, 1, 4);
        water.x = from(random, 0, water.width - water.columns);
        water.y = from(random, 0, water.height - water.rows);
        water.stiff = from(random, 0, random.nextBoolean() ? 6 : 30);
        water.drag = from(random, 1, 30);
        water.buoyancy = from(random, 1, 99);
        water.brother = from(random, 0, 3);
        water.otherBrother = (water.brother + from(random, 1, 3)) % 4;
        int places = water.columns * water.rows;
        for (int k = random.nextInt(random.nextBoolean() ? 3 : 21); k > 0; k--) {
            int x = from(random, 0, water.width - 1);
            int y = from(random, 0, water.height - 1);
            boolean isUnder = x >= water.x && x < water.x + water.columns && y >= water.y && y < water.y + water.rows;
            if (!isUnder) {
                water.rocks.add(new int[] {x, y});
            }
        }
        for (int k = random.nextInt(random.nextBoolean() ? 4 : 13); k > 0; k--) {
            water.graves.add(new int[] {random.nextInt(places), from(random, 1, random.nextBoolean() ? 6 : 30)});
        }
        for (int k = random.nextInt(7); k > 0; k--) {
            water.wreaths.add(new int[] {from(random, 1, 9)});
        }
        for (int k = random.nextInt(mostMourners + 1); k > 0; k--) {
            water.mourners.add(new int[] {from(random, 1, 6), from(random, 0, 9), random.nextInt(2)});
        }
        for (int k = random.nextInt(5); k > 0; k--) {
            water.leaks.add(new int[] {random.nextInt(places), from(random, 1, random.nextBoolean() ? 2 : 9)});
        }
        return water;
    }

    private static final String[] DEEDS =
            {"stand", "leave", "wind", "calm", "frost", "thaw", "moor", "cast", "bail", "hours"};

    static List<int[]> day(Random random, Oracle.Water water) {
        List<int[]> day = new ArrayList<>();
        for (int k = random.nextInt(41); k > 0; k--) {
            int kind = random.nextInt(3) == 0 ? 9 : random.nextInt(10);
            int[] deed = {kind, NONE, NONE};
            switch (kind) {
                case 0:
                    deed[1] = random.nextInt(5);
                    deed[2] = random.nextInt(random.nextInt(5) == 0 ? 16 : water.columns * water.rows);
                    break;
                case 1:
                    deed[1] = random.nextInt(5);
                    break;
                case 2:
                    deed[1] = random.nextInt(4);
                    deed[2] = from(random, 1, 9);
                    break;
                case 8:
                    deed[1] = random.nextInt(water.columns * water.rows);
                    break;
                case 9:
                    deed[1] = from(random, 1, random.nextBoolean() ? 3 : 9);
                    break;
                default:
                    break;
            }
            day.add(deed);
            // mostly such as can be: else a day would end with its first deeds
            if (random.nextInt(8) != 0 && Oracle.stop(water, day) < day.size()) {
                day.remove(day.size() - 1);
            }
        }
        return day;
    }

    private static final String[] TERMS = {"grave", "list", "touch", "water", "odd", "most"};

    private static List<int[]> law(Random random) {
        List<int[]> law = new ArrayList<>();
        for (int k = random.nextInt(9); k > 0; k--) {
            int kind = random.nextInt(6);
            int[] most = {9, random.nextBoolean() ? 60 : 999, 3, 9, 99, random.nextBoolean() ? 90 : 999};
            law.add(new int[] {kind, random.nextInt(most[kind] + 1), kind == 1 || kind == 2 ? random.nextInt(100) : NONE});
        }
        return law;
    }

    /** The text of rows that begin with the number of a word. */
    static String text(List<int[]> rows, String[] words) {
        StringBuilder text = new StringBuilder();
        for (int[] row : rows) {
            text.append(words[row[0]]);
            for (int k = 1; k < row.length; k++) {
                if (row[k] != NONE) {
                    text.append(' ').append(row[k]);
                }
            }
            text.append(';');
        }
        return text.toString();
    }

    private static void lakesAndDays(Random random, String name) {
        Oracle.Water water = lake(random, 5);
        List<int[]> day = day(random, water);
        List<int[]> law = law(random);
        String note = name + " <" + water.text() + "> <" + text(day, DEEDS) + ">";
        Retold regatta = told("lake:" + water.text(), "day:" + text(day, DEEDS), "law:" + text(law, TERMS));
        tellings(regatta, water, day, law, note);
        int stop = Oracle.stop(water, day);
        Bench.due(note + " stop", regatta.now().stop(0, 0), stop);
        for (int n = -1; n <= day.size() + 1; n++) {
            Oracle.Boat boat = Oracle.boat(water, day, n);
            String at = note + " at " + n;
            if (boat == null) {
                Bench.due(at + " state", regatta.now().state(0, 0, n, 0), -2);
                Bench.due(at + " list", regatta.now().list(0, 0, n, 0), -1000000);
                Bench.due(at + " drift", regatta.now().drift(0, 0, n, 0), -2);
                Bench.due(at + " goes", regatta.now().goes(0, 0, n, 0), -2);
                Bench.due(at + " owed", regatta.now().owed(0, 0, n, 0), NONE);
            } else if (random.nextInt(3) == 0 || n == stop) {
                state(regatta, boat, n, at);
                Bench.due(at + " owed", regatta.now().owed(0, 0, n, 0), Oracle.owed(boat, law));
                Bench.due(at + " wake", regatta.now().goes(0, 0, n, 0), Oracle.wake(Oracle.boat(water, day, n)));
                Bench.due(at + " hold", regatta.now().goes(0, 0, n, 1), Oracle.hold(Oracle.boat(water, day, n)));
                for (int w = 0; w < 4; w++) {
                    Bench.due(at + " turn " + w, regatta.now().goes(0, 0, n, 10 + w),
                            Oracle.turn(Oracle.boat(water, day, n), w));
                }
            }
        }
        int seed = random.nextInt();
        for (int n = 1; n <= 40; n += from(random, 1, 13)) {
            Oracle.Boat boat = Oracle.drawn(water, seed, n);
            int[] want = {boat.x, boat.y, boat.touchedBits(), boat.aground, boat.sunk ? 1 : 0};
            for (int what = 0; what < 5; what++) {
                Bench.due(note + " drawn " + seed + " " + n + " " + what, regatta.now().drawn(0, seed, n, what), want[what]);
            }
        }
        Bench.due(note + " row", regatta.now().trim(0, 0), Oracle.heaviest(water, true));
        Bench.due(note + " column", regatta.now().trim(0, 1), Oracle.heaviest(water, false));
        Bench.due(note + " keel", regatta.now().trim(0, 2), Oracle.keel(water));
        for (int m = 0; m < 5; m++) {
            Bench.due(note + " trim " + m, regatta.now().trim(0, 10 + m), m < water.mourners.size() ? Oracle.trim(water, m) : NONE);
        }
    }

    private static void state(Retold regatta, Oracle.Boat boat, int n, String at) {
        int[] want = {boat.x, boat.y, boat.hours, boat.aground, boat.touchedBits(), boat.allWater(), boat.sunk ? 1 : 0,
            boat.frost ? 1 : 0, boat.moored ? 1 : 0, boat.way, boat.force};
        for (int what = -1; what <= 50; what++) {
            int due = -2;
            if (what >= 0 && what <= 10) {
                due = want[what];
            } else if (what >= 20 && what < 20 + boat.own.mourners.size()) {
                due = boat.aboard.getOrDefault(what - 20, NONE);
            } else if (what >= 30 && what < 30 + boat.own.columns * boat.own.rows) {
                due = boat.water[what - 30];
            }
            Bench.due(at + " state " + what, regatta.now().state(0, 0, n, what), due);
        }
        for (int axis = 0; axis < 2; axis++) {
            Bench.due(at + " list " + axis, regatta.now().list(0, 0, n, axis), boat.list(axis));
            Bench.due(at + " drift " + axis, regatta.now().drift(0, 0, n, axis), boat.drift(axis));
        }
    }

    private static void tellings(Retold regatta, Oracle.Water water, List<int[]> day, List<int[]> law, String note) {
        int[] basics = {water.width, water.height, water.columns, water.rows, water.x, water.y, water.stiff, water.drag,
            water.buoyancy, water.brother, water.otherBrother, water.rocks.size(), water.graves.size(),
            water.wreaths.size(), water.mourners.size(), water.leaks.size()};
        for (int what = -2; what <= 170; what++) {
            int due = NONE;
            if (what >= 0 && what < basics.length) {
                due = basics[what];
            } else if (what >= 20 && what < 60) {
                due = number(water.rocks, (what - 20) % 20, (what - 20) / 20);
            } else if (what >= 60 && what < 100) {
                due = number(water.graves, (what - 60) % 20, (what - 60) / 20);
            } else if (what >= 100 && what < 110) {
                due = number(water.wreaths, what - 100, 0);
            } else if (what >= 110 && what < 140) {
                due = number(water.mourners, what % 10, what / 10 - 11);
            } else if (what >= 140 && what < 160) {
                due = number(water.leaks, what % 10, what / 10 - 14);
            }
            Bench.due(note + " lake " + what, regatta.now().lake(0, what), due);
        }
        Bench.due(note + " deeds", regatta.now().deed(0, NONE, 0), day.size());
        Bench.due(note + " terms", regatta.now().term(0, NONE, 0), law.size());
        for (int k = 0; k <= 40; k++) {
            for (int what = 0; what < 3; what++) {
                Bench.due(note + " deed " + k, regatta.now().deed(0, k, what), k < day.size() ? day.get(k)[what] : -2);
                Bench.due(note + " term " + k, regatta.now().term(0, k, what), k < law.size() ? law.get(k)[what] : -2);
            }
        }
    }

    private static int number(List<int[]> rows, int k, int column) {
        return k < rows.size() ? rows.get(k)[column] : NONE;
    }

    private static void sending(Random random, String name) {
        Oracle.Water water = lake(random, random.nextInt(8) == 0 ? 4 : 3);
        water.stiff = from(random, 0, 12);
        String note = name + " <" + water.text() + ">";
        Retold regatta = told("lake:" + water.text());
        int[][] costs = Oracle.costs(water, 0);
        for (int drift = 0; drift < 9; drift++) {
            Bench.due(note + " cost " + drift, regatta.now().cost(0, drift / 3 - 1, drift % 3 - 1), costs[drift / 3][drift % 3]);
        }
        int hours = random.nextInt(13);
        Set<Integer> reach = Oracle.reach(water, costs, hours);
        Bench.due(note + " reach " + hours, regatta.now().reach(0, hours, NONE, NONE), reach.size());
        var least = Oracle.least(water, costs, false);
        for (int k = 0; k < 20; k++) {
            int x = random.nextInt(12);
            int y = random.nextInt(12);
            boolean isCell = x < water.width && y < water.height;
            int can = reach.contains(100 * x + y) ? 1 : 0;
            Bench.due(note + " reach " + hours + " " + x + " " + y, regatta.now().reach(0, hours, x, y), isCell ? can : NONE);
            int thrift = NONE;
            for (int bits = 0; bits < 16; bits++) {
                int tears = least.getOrDefault(10000 * x + 100 * y + bits, NONE);
                thrift = tears != NONE && (thrift == NONE || tears < thrift) ? tears : thrift;
            }
            Bench.due(note + " thrift " + x + " " + y, regatta.now().thrift(0, x, y), thrift);
        }
        Bench.due(note + " soon", regatta.now().sends(0, 0), Oracle.toTouch(water, costs, true));
        Bench.due(note + " wept", regatta.now().sends(0, 1), Oracle.toTouch(water, costs, false));
        Bench.due(note + " quiet", regatta.now().sends(0, 2), Oracle.quiet(water));
        pulling(regatta, water, from(random, 1, 12), note);
    }

    private static void pulling(Retold regatta, Oracle.Water water, int hours, String note) {
        List<Integer> resting = Oracle.resting(water, hours);
        Bench.due(note + " rest " + hours, regatta.now().pull(0, hours, NONE), resting.size());
        for (int k = 0; k < 10; k++) {
            Bench.due(note + " rest " + hours + " " + k, regatta.now().pull(0, hours, k), k < resting.size() ? resting.get(k) : -2);
        }
        for (int couple = 0; couple < 9; couple++) {
            for (int kin = 0; kin < 2; kin++) {
                Bench.due(note + " gain " + hours + " " + couple + " " + kin, regatta.now().gain(0, hours, couple, kin),
                        Oracle.gain(water, hours, couple, kin));
            }
        }
    }

    private static void nights(Random random, String name) {
        Oracle.Water water = lake(random, 4);
        water.stiff = from(random, 0, 9);
        List<int[]> ways = Oracle.ways(water);
        int[] truth = ways.get(random.nextInt(ways.size()));
        List<int[]> night = new ArrayList<>();
        Oracle.Boat boat = new Oracle.Boat(water.bare());
        for (int m = 0; m < truth.length; m++) {
            if (truth[m] != NONE) {
                boat.aboard.put(m, truth[m]);
            }
        }
        for (int k = random.nextInt(9); k > 0; k--) {
            boat.hour();
            boolean isWrong = random.nextInt(12) == 0;
            night.add(new int[] {isWrong ? random.nextInt(12) : boat.x, boat.y});
        }
        StringBuilder text = new StringBuilder();
        Oracle.lines(text, "lay", night);
        String note = name + " <" + water.text() + "> <" + text + ">";
        Retold regatta = told("lake:" + water.text(), "night:" + text);
        Bench.due(note + " sights", regatta.now().sight(0, NONE, 0), night.size());
        for (int k = 0; k < 9; k++) {
            Bench.due(note + " sight x", regatta.now().sight(0, k, 0), k < night.size() ? night.get(k)[0] : -2);
            Bench.due(note + " sight y", regatta.now().sight(0, k, 1), k < night.size() ? night.get(k)[1] : -2);
        }
        int fits = 0;
        int aboard = (1 << water.mourners.size()) - 1;
        int likely = NONE;
        int later = 0;
        int[][] chosen = new int[5][17];
        for (int[] way : ways) {
            int seen = Oracle.seen(water, night, way);
            later = Math.max(later, seen);
            if (seen == night.size()) {
                fits++;
                int bits = 0;
                for (int m = 0; m < way.length; m++) {
                    bits |= way[m] == NONE ? 0 : 1 << m;
                    chosen[m][way[m] + 1]++;
                }
                aboard &= bits;
                likely = likely == NONE ? Integer.bitCount(bits) : Math.min(likely, Integer.bitCount(bits));
            }
        }
        int[] want = {fits, fits == 0 ? 0 : aboard, likely, later};
        for (int what = 0; what < 4; what++) {
            Bench.due(note + " stood " + what, regatta.now().stood(0, 0, what), want[what]);
        }
        for (int m = 0; m < 5; m++) {
            for (int place = NONE; place < 16; place++) {
                boolean is = m < water.mourners.size() && (place == NONE || Oracle.corners(water).contains(place));
                Bench.due(note + " corner " + m + " " + place, regatta.now().corner(0, 0, m, place), is ? chosen[m][place + 1] : NONE);
            }
        }
    }

    private static void fogs(Random random, String name) {
        List<int[]> fog = new ArrayList<>();
        int most = from(random, 1, 5);
        for (int d = random.nextInt(random.nextInt(4) == 0 ? 9 : 6); d > 0; d--) {
            List<Integer> graves = new ArrayList<>();
            for (int k = from(random, 1, most); k > 0; k--) {
                int grave = random.nextInt(8);
                if (!graves.contains(grave)) {
                    graves.add(grave);
                }
            }
            fog.add(graves.stream().mapToInt(Integer::intValue).toArray());
        }
        StringBuilder text = new StringBuilder();
        Oracle.lines(text, "dead", fog);
        String note = name + " <" + text + ">";
        Retold regatta = told("fog:" + text);
        List<int[]> ways = Oracle.burials(fog);
        Bench.due(note + " ways", regatta.now().lies(0, 0), ways.size());
        if (ways.size() < 300) {
            Bench.due(note + " dig", regatta.now().lies(0, 1), Oracle.dig(fog));
        }
        Bench.due(note + " dead", regatta.now().dead(0, NONE), fog.size());
        for (int d = 0; d < 9; d++) {
            boolean is = d < fog.size();
            int bits = 0;
            for (int grave : is ? fog.get(d) : new int[0]) {
                bits |= 1 << grave;
            }
            Bench.due(note + " dead " + d, regatta.now().dead(0, d), is ? bits : -2);
            int may = 0;
            for (int[] way : ways) {
                may |= is ? 1 << way[d] : 0;
            }
            int sure = Integer.bitCount(may) == 1 ? Integer.numberOfTrailingZeros(may) : NONE;
            Bench.due(note + " sure " + d, regatta.now().lies(0, 10 + d), is ? sure : -2);
            Bench.due(note + " may " + d, regatta.now().lies(0, 20 + d), is ? may : -2);
        }
    }

    private static void leaks(Random random, String name) {
        Oracle.Water water = lake(random, 2);
        String note = name + " <" + water.text() + ">";
        Retold regatta = told("lake:" + water.text());
        int hours = from(random, 1, 6);
        int[] want = water.leaks.isEmpty() ? null : Oracle.bail(water.leaks, hours);
        Bench.due(note + " bail " + hours, regatta.now().bail(0, hours, NONE), want == null ? NONE : want[hours]);
        for (int k = 0; k < 8; k++) {
            Bench.due(note + " bail " + hours + " " + k, regatta.now().bail(0, hours, k), want == null || k >= hours ? NONE : want[k]);
        }
    }

    private static void meeting(Random random, String name) {
        Oracle.Water water = lake(random, 1);
        Oracle.Water other = lake(random, 1);
        Retold regatta = told("lake:" + water.text(), "lake:" + other.text());
        String note = name + " <" + water.text() + "> <" + other.text() + ">";
        for (int k = 0; k < 8; k++) {
            Oracle.Water a = (k & 1) == 0 ? water : other;
            Oracle.Water b = (k & 2) == 0 ? water : other;
            Bench.due(note + " meet " + k, regatta.now().meet(k & 1, k >> 1 & 1, k >= 4), Oracle.meet(a, b, k >= 4));
        }
    }
}
