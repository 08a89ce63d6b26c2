import java.util.ArrayList;
import java.util.Arrays;
import java.util.HashMap;
import java.util.HashSet;
import java.util.List;
import java.util.Map;
import java.util.PriorityQueue;
import java.util.Set;

/**
 * The document once more, in its slowest form: everything is tried. Nothing is shared with the class but the words of
 * the document.
 */
final class Oracle {
    static final int NONE = -1;
    static final int[] STEP_X = {0, 1, 0, -1};
    static final int[] STEP_Y = {-1, 0, 1, 0};

    private Oracle() {
    }

    /** A lake as told. */
    static final class Water {
        int width = 8;
        int height = 8;
        int columns = 3;
        int rows = 2;
        int x;
        int y;
        int stiff = 5;
        int drag = 4;
        int buoyancy = 40;
        int brother = 1;
        int otherBrother = 3;
        List<int[]> rocks = new ArrayList<>();
        List<int[]> graves = new ArrayList<>();
        List<int[]> wreaths = new ArrayList<>();
        List<int[]> mourners = new ArrayList<>();
        List<int[]> leaks = new ArrayList<>();

        Water bare() {
            Water bare = new Water();
            bare.width = width;
            bare.height = height;
            bare.columns = columns;
            bare.rows = rows;
            bare.x = x;
            bare.y = y;
            bare.stiff = stiff;
            bare.drag = drag;
            bare.buoyancy = buoyancy;
            bare.brother = brother;
            bare.otherBrother = otherBrother;
            bare.rocks = rocks;
            bare.graves = graves;
            bare.wreaths = wreaths;
            bare.mourners = mourners;
            return bare;
        }

        String text() {
            StringBuilder text = new StringBuilder();
            text.append("lake ").append(width).append(' ').append(height).append(";raft ").append(columns);
            text.append(' ').append(rows).append(";at ").append(x).append(' ').append(y).append(";stiff ");
            text.append(stiff).append(";drag ").append(drag).append(";float ").append(buoyancy);
            text.append(";brothers ").append(brother).append(' ').append(otherBrother).append(';');
            lines(text, "rock", rocks);
            lines(text, "grave", graves);
            lines(text, "wreath", wreaths);
            lines(text, "mourner", mourners);
            lines(text, "leak", leaks);
            return text.toString();
        }
    }

    static void lines(StringBuilder text, String word, List<int[]> rows) {
        for (int[] row : rows) {
            text.append(word);
            for (int number : row) {
                text.append(' ').append(number);
            }
            text.append(';');
        }
    }

    /** A raft under way, cell by cell. */
    static final class Boat {
        final Water own;
        final Water around;
        int x;
        int y;
        int hours;
        int aground;
        Set<Integer> touched = new HashSet<>();
        boolean sunk;
        boolean frost;
        boolean moored;
        int way = NONE;
        int force;
        Map<Integer, Integer> aboard = new HashMap<>();
        int[] water = new int[16];

        Boat(Water own, Water around) {
            this.own = own;
            this.around = around;
            x = own.x;
            y = own.y;
            touched.addAll(lyingAt(x, y));
        }

        Boat(Water own) {
            this(own, own);
        }

        List<int[]> cells(int atX, int atY) {
            List<int[]> cells = new ArrayList<>();
            for (int r = 0; r < own.rows; r++) {
                for (int c = 0; c < own.columns; c++) {
                    cells.add(new int[] {atX + c, atY + r});
                }
            }
            return cells;
        }

        Set<Integer> lyingAt(int atX, int atY) {
            Set<Integer> sides = new HashSet<>();
            for (int[] cell : cells(atX, atY)) {
                for (int side = 0; side < 4; side++) {
                    int beyondX = cell[0] + STEP_X[side];
                    int beyondY = cell[1] + STEP_Y[side];
                    if (beyondX < 0 || beyondY < 0 || beyondX >= around.width || beyondY >= around.height) {
                        sides.add(side);
                    }
                }
            }
            return sides;
        }

        boolean canLie(int atX, int atY) {
            for (int[] cell : cells(atX, atY)) {
                if (cell[0] < 0 || cell[1] < 0 || cell[0] >= around.width || cell[1] >= around.height) {
                    return false;
                }
                for (int[] rock : around.rocks) {
                    if (rock[0] == cell[0] && rock[1] == cell[1]) {
                        return false;
                    }
                }
            }
            return true;
        }

        int weightAt(int column, int row) {
            int place = row * own.columns + column;
            int weight = water[place];
            for (int[] grave : own.graves) {
                weight += grave[0] == place ? grave[1] : 0;
            }
            for (Map.Entry<Integer, Integer> one : aboard.entrySet()) {
                weight += one.getValue() == place ? own.mourners.get(one.getKey())[0] : 0;
            }
            return weight;
        }

        int list(int axis) {
            int sum = 0;
            for (int r = 0; r < own.rows; r++) {
                for (int c = 0; c < own.columns; c++) {
                    sum += weightAt(c, r) * (axis == 0 ? 2 * c + 1 - own.columns : 2 * r + 1 - own.rows);
                }
            }
            return sum;
        }

        int lean(int axis) {
            int list = list(axis);
            return list > own.stiff ? 1 : list < -own.stiff ? -1 : 0;
        }

        int drift(int axis) {
            int sail = 0;
            for (int[] wreath : own.wreaths) {
                sail += wreath[0] * force;
            }
            int blown = 0;
            if (way != NONE && sail >= own.drag) {
                blown = axis == 0 ? STEP_X[way] : STEP_Y[way];
            }
            int both = lean(axis) + blown;
            return both > 0 ? 1 : both < 0 ? -1 : 0;
        }

        void go(int dx, int dy) {
            if (dx != 0 && canLie(x + dx, y)) {
                x += dx;
            } else if (dx != 0) {
                aground++;
            }
            if (dy != 0 && canLie(x, y + dy)) {
                y += dy;
            } else if (dy != 0) {
                aground++;
            }
        }

        int allWater() {
            return Arrays.stream(water).sum();
        }

        void hour() {
            if (sunk) {
                return;
            }
            if (!frost && !moored) {
                go(drift(0), drift(1));
            }
            hours++;
            touched.addAll(lyingAt(x, y));
            for (int[] leak : own.leaks) {
                water[leak[0]] += leak[1];
            }
            sunk = allWater() > own.buoyancy;
        }

        boolean deed(int[] deed) {
            if (sunk) {
                return false;
            }
            int places = own.columns * own.rows;
            switch (deed[0]) {
                case 0:
                    if (deed[1] >= own.mourners.size() || deed[2] >= places
                            || aboard.getOrDefault(deed[1], NONE) == deed[2]) {
                        return false;
                    }
                    aboard.put(deed[1], deed[2]);
                    return true;
                case 1:
                    return aboard.remove(deed[1]) != null;
                case 2:
                    way = deed[1];
                    force = deed[2];
                    return true;
                case 3: {
                    boolean was = way != NONE;
                    way = NONE;
                    force = 0;
                    return was;
                }
                case 4: {
                    boolean was = frost;
                    frost = true;
                    return !was;
                }
                case 5: {
                    boolean was = frost;
                    frost = false;
                    return was;
                }
                case 6: {
                    if (moored || lyingAt(x, y).isEmpty()) {
                        return false;
                    }
                    moored = true;
                    return true;
                }
                case 7: {
                    boolean was = moored;
                    moored = false;
                    return was;
                }
                case 8:
                    if (deed[1] >= places || water[deed[1]] == 0) {
                        return false;
                    }
                    water[deed[1]] = 0;
                    return true;
                default:
                    for (int h = 0; h < deed[1]; h++) {
                        hour();
                    }
                    return true;
            }
        }

        int touchedBits() {
            int bits = 0;
            for (int side : touched) {
                bits |= 1 << side;
            }
            return bits;
        }
    }

    static int stop(Water water, List<int[]> day) {
        Boat boat = new Boat(water);
        for (int k = 0; k < day.size(); k++) {
            if (!boat.deed(day.get(k))) {
                return k;
            }
        }
        return day.size();
    }

    /** The boat behind n deeds; null if there is no such state. */
    static Boat boat(Water water, List<int[]> day, int n) {
        if (n < 0 || n > stop(water, day)) {
            return null;
        }
        Boat boat = new Boat(water);
        for (int k = 0; k < n; k++) {
            boat.deed(day.get(k));
        }
        return boat;
    }

    static int wake(Boat boat) {
        int before = boat.aground;
        for (int h = 1; h <= 60; h++) {
            boat.hour();
            if (boat.aground != before) {
                return h;
            }
        }
        return NONE;
    }

    static int hold(Boat boat) {
        for (int h = 0; h <= 60; h++) {
            if (boat.sunk) {
                return h;
            }
            boat.hour();
        }
        return NONE;
    }

    static int turn(Boat boat, int way) {
        for (int force = 1; force <= 9; force++) {
            boat.way = way;
            boat.force = force;
            int axis = STEP_X[way] != 0 ? 0 : 1;
            if (boat.drift(axis) == STEP_X[way] + STEP_Y[way]) {
                return force;
            }
        }
        return NONE;
    }

    static int owed(Boat boat, List<int[]> law) {
        int sum = 0;
        for (int[] term : law) {
            int sizes = Math.abs(boat.list(0)) + Math.abs(boat.list(1));
            if (term[0] == 0) {
                for (int[] grave : boat.own.graves) {
                    sum += term[1] * grave[1];
                }
            } else if (term[0] == 1 && sizes > term[1]) {
                sum += term[2];
            } else if (term[0] == 2 && boat.touched.contains(term[1])) {
                sum += term[2];
            } else if (term[0] == 3) {
                sum += term[1] * boat.allWater();
            } else if (term[0] == 4 && (boat.x + boat.y) % 2 != 0) {
                sum += term[1];
            } else if (term[0] == 5 && sum > term[1]) {
                sum = term[1];
            }
        }
        return sum;
    }

    /** COST by lean of x and of y (each and 1), the mourners of a set (bits) staying ashore; NONE: none do it. */
    static int[][] costs(Water water, int ashore) {
        int[][] costs = {{NONE, NONE, NONE}, {NONE, NONE, NONE}, {NONE, NONE, NONE}};
        tryStands(new Boat(water), 0, ashore, costs);
        return costs;
    }

    private static void tryStands(Boat boat, int mourner, int ashore, int[][] costs) {
        if (mourner == boat.own.mourners.size()) {
            int tears = 0;
            for (int one : boat.aboard.keySet()) {
                tears += boat.own.mourners.get(one)[1];
            }
            int x = boat.lean(0) + 1;
            int y = boat.lean(1) + 1;
            costs[x][y] = costs[x][y] == NONE ? tears : Math.min(costs[x][y], tears);
            return;
        }
        tryStands(boat, mourner + 1, ashore, costs);
        for (int place = 0; place < boat.own.columns * boat.own.rows && (ashore >> mourner & 1) == 0; place++) {
            boat.aboard.put(mourner, place);
            tryStands(boat, mourner + 1, ashore, costs);
            boat.aboard.remove(mourner);
        }
    }

    /** Where the raft can lie behind so many hours, as 100 * x and y. */
    static Set<Integer> reach(Water water, int[][] costs, int hours) {
        Set<Integer> here = new HashSet<>();
        here.add(100 * water.x + water.y);
        for (int h = 0; h < hours; h++) {
            Set<Integer> next = new HashSet<>();
            for (int cell : here) {
                for (int drift = 0; drift < 9; drift++) {
                    if (costs[drift / 3][drift % 3] != NONE) {
                        Boat boat = new Boat(water);
                        boat.x = cell / 100;
                        boat.y = cell % 100;
                        boat.go(drift / 3 - 1, drift % 3 - 1);
                        next.add(100 * boat.x + boat.y);
                    }
                }
            }
            here = next;
        }
        return here;
    }

    /** The least of hours or of tears to each (x, y, sides touched), as 10000 * x + 100 * y + bits. */
    static Map<Integer, Integer> least(Water water, int[][] costs, boolean byHours) {
        Map<Integer, Integer> done = new HashMap<>();
        PriorityQueue<int[]> open = new PriorityQueue<>((a, b) -> Integer.compare(a[0], b[0]));
        Boat first = new Boat(water);
        open.add(new int[] {0, 10000 * first.x + 100 * first.y + first.touchedBits()});
        while (!open.isEmpty()) {
            int[] head = open.poll();
            if (done.containsKey(head[1])) {
                continue;
            }
            done.put(head[1], head[0]);
            for (int drift = 0; drift < 9; drift++) {
                int cost = costs[drift / 3][drift % 3];
                if (cost != NONE) {
                    Boat boat = new Boat(water);
                    boat.x = head[1] / 10000;
                    boat.y = head[1] / 100 % 100;
                    boat.go(drift / 3 - 1, drift % 3 - 1);
                    int bits = head[1] % 100;
                    for (int side : boat.lyingAt(boat.x, boat.y)) {
                        bits |= 1 << side;
                    }
                    open.add(new int[] {head[0] + (byHours ? 1 : cost), 10000 * boat.x + 100 * boat.y + bits});
                }
            }
        }
        return done;
    }

    static int toTouch(Water water, int[][] costs, boolean byHours) {
        int want = 1 << water.brother | 1 << water.otherBrother;
        int best = NONE;
        for (Map.Entry<Integer, Integer> one : least(water, costs, byHours).entrySet()) {
            if ((one.getKey() % 100 & want) == want && (best == NONE || one.getValue() < best)) {
                best = one.getValue();
            }
        }
        return best;
    }

    static int quiet(Water water) {
        int soon = toTouch(water, costs(water, 0), true);
        int bits = 0;
        for (int m = 0; m < water.mourners.size() && soon != NONE; m++) {
            int without = toTouch(water, costs(water, 1 << m), true);
            if (without != NONE && without <= soon) {
                bits |= 1 << m;
            }
        }
        return bits;
    }

    static int gain(Water water, int hours, int couple, int kin) {
        Boat boat = new Boat(water.bare());
        int[] choices = {couple / 3, couple % 3};
        int tears = 0;
        for (int m = 0; m < water.mourners.size(); m++) {
            int[] mourner = water.mourners.get(m);
            if (choices[mourner[2]] != 0) {
                boat.aboard.put(m, choices[mourner[2]] == 1 ? 0 : water.columns - 1);
                tears += mourner[2] == kin ? mourner[1] : 0;
            }
        }
        for (int h = 0; h < hours; h++) {
            boat.hour();
        }
        int further = boat.x - water.x;
        return 10 * (kin == 1 ? further : -further) - tears * hours;
    }

    static List<Integer> resting(Water water, int hours) {
        List<Integer> resting = new ArrayList<>();
        for (int couple = 0; couple < 9; couple++) {
            boolean rests = true;
            for (int other = 0; other < 9; other++) {
                if (other / 3 == couple / 3) {
                    rests &= gain(water, hours, other, 1) <= gain(water, hours, couple, 1);
                }
                if (other % 3 == couple % 3) {
                    rests &= gain(water, hours, other, 0) <= gain(water, hours, couple, 0);
                }
            }
            if (rests) {
                resting.add(couple);
            }
        }
        return resting;
    }

    static Set<Integer> corners(Water water) {
        Set<Integer> corners = new HashSet<>();
        corners.add(0);
        corners.add(water.columns - 1);
        corners.add((water.rows - 1) * water.columns);
        corners.add(water.rows * water.columns - 1);
        return corners;
    }

    /** All ways in which the mourners may have stood (NONE: ashore). */
    static List<int[]> ways(Water water) {
        List<int[]> ways = new ArrayList<>();
        ways.add(new int[0]);
        for (int m = 0; m < water.mourners.size(); m++) {
            List<int[]> longer = new ArrayList<>();
            for (int[] way : ways) {
                int[] ashore = Arrays.copyOf(way, m + 1);
                ashore[m] = NONE;
                longer.add(ashore);
                for (int corner : corners(water)) {
                    int[] there = Arrays.copyOf(way, m + 1);
                    there[m] = corner;
                    longer.add(there);
                }
            }
            ways = longer;
        }
        return ways;
    }

    /** How many sights, from the first one on, are as a way makes them. */
    static int seen(Water water, List<int[]> night, int[] way) {
        Boat boat = new Boat(water.bare());
        for (int m = 0; m < way.length; m++) {
            if (way[m] != NONE) {
                boat.aboard.put(m, way[m]);
            }
        }
        for (int k = 0; k < night.size(); k++) {
            boat.hour();
            if (boat.x != night.get(k)[0] || boat.y != night.get(k)[1]) {
                return k;
            }
        }
        return night.size();
    }

    /** All ways in which the dead may lie: of each his grave. */
    static List<int[]> burials(List<int[]> fog) {
        List<int[]> ways = new ArrayList<>();
        ways.add(new int[0]);
        for (int d = 0; d < fog.size(); d++) {
            List<int[]> longer = new ArrayList<>();
            for (int[] way : ways) {
                for (int grave : fog.get(d)) {
                    if (Arrays.stream(way).noneMatch(taken -> taken == grave)) {
                        int[] there = Arrays.copyOf(way, d + 1);
                        there[d] = grave;
                        longer.add(there);
                    }
                }
            }
            ways = longer;
        }
        return ways;
    }

    static int dig(List<int[]> fog) {
        List<int[]> ways = burials(fog);
        if (ways.isEmpty()) {
            return NONE;
        }
        int best = 255;
        for (int set = 0; set < 256; set++) {
            Set<String> findings = new HashSet<>();
            for (int[] way : ways) {
                StringBuilder finding = new StringBuilder();
                for (int d = 0; d < way.length; d++) {
                    if ((set >> way[d] & 1) == 1) {
                        finding.append(d).append('@').append(way[d]).append(' ');
                    }
                }
                findings.add(finding.toString());
            }
            if (findings.size() == ways.size() && Integer.bitCount(set) < Integer.bitCount(best)) {
                best = set;
            }
        }
        return best;
    }

    /** The best row of leaks, and behind it the most water. */
    static int[] bail(List<int[]> leaks, int hours) {
        int rows = (int) Math.pow(leaks.size(), hours);
        int[] best = null;
        for (int code = 0; code < rows; code++) {
            int[] row = new int[hours + 1];
            for (int h = hours - 1, rest = code; h >= 0; h--, rest /= leaks.size()) {
                row[h] = rest % leaks.size();
            }
            int[] water = new int[leaks.size()];
            for (int h = 0; h < hours; h++) {
                for (int k = 0; k < water.length; k++) {
                    water[k] += leaks.get(k)[1];
                }
                row[hours] = Math.max(row[hours], Arrays.stream(water).sum());
                water[row[h]] = 0;
            }
            if (best == null || row[hours] < best[hours]) {
                best = row;
            }
        }
        return best;
    }

    static int meet(Water water, Water other, boolean beside) {
        Water first = water.bare();
        Water second = other.bare();
        Boat a = new Boat(first, first);
        Boat b = new Boat(second, first);
        for (int[] cell : b.cells(b.x, b.y)) {
            if (cell[0] >= first.width || cell[1] >= first.height) {
                return NONE;
            }
        }
        for (int h = 0; h <= 40; h++) {
            for (int[] one : a.cells(a.x, a.y)) {
                for (int[] two : b.cells(b.x, b.y)) {
                    int apart = Math.abs(one[0] - two[0]) + Math.abs(one[1] - two[1]);
                    if (apart == 0 || beside && apart == 1) {
                        return h;
                    }
                }
            }
            a.hour();
            b.hour();
        }
        return NONE;
    }

    static Boat drawn(Water water, int seed, int hours) {
        Boat boat = new Boat(water);
        long x = seed & 0xffffffffL;
        for (int h = 0; h < hours; h++) {
            x = (x * 1103515245L + 12345L) & 0xffffffffL;
            int way = (int) ((x >> 16) % 5);
            boat.way = way == 4 ? NONE : way;
            boat.force = 0;
            if (way != 4) {
                x = (x * 1103515245L + 12345L) & 0xffffffffL;
                boat.force = (int) ((x >> 16) % 9) + 1;
            }
            boat.hour();
        }
        return boat;
    }

    static int sizes(Boat boat) {
        return Math.abs(boat.list(0)) + Math.abs(boat.list(1));
    }

    static int keel(Water water) {
        int best = NONE;
        int least = 0;
        for (int k = 0; k < water.graves.size(); k++) {
            Water without = water.bare();
            without.graves = new ArrayList<>(water.graves);
            without.graves.remove(k);
            int sizes = sizes(new Boat(without));
            if (best == NONE || sizes < least) {
                best = k;
                least = sizes;
            }
        }
        return best;
    }

    static int trim(Water water, int mourner) {
        int best = NONE;
        int least = 0;
        for (int place = 0; place < water.columns * water.rows; place++) {
            Boat boat = new Boat(water);
            boat.aboard.put(mourner, place);
            int sizes = sizes(boat);
            if (best == NONE || sizes < least) {
                best = place;
                least = sizes;
            }
        }
        return best;
    }

    static int heaviest(Water water, boolean row) {
        int best = 0;
        for (int line = 0; line < (row ? water.rows : water.columns); line++) {
            if (weightOn(water, row, line) > weightOn(water, row, best)) {
                best = line;
            }
        }
        return best;
    }

    private static int weightOn(Water water, boolean row, int line) {
        int sum = 0;
        for (int[] grave : water.graves) {
            int at = row ? grave[0] / water.columns : grave[0] % water.columns;
            sum += at == line ? grave[1] : 0;
        }
        return sum;
    }
}
