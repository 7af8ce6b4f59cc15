import java.util.ArrayList;
import java.util.Arrays;
import java.util.List;
import java.util.Random;

/**
 * What one call answers must fit what others answer: a choice is tried out by pouring, by plans and by nights on
 * new objects of the same city, so that nothing here is reckoned but by the class's own plainest calls.
 */
public final class RelationsTest {
    private static final Due DUE = new Due();
    private static final int CITIES = 200;

    private final Random random;
    private final String name;
    private final int many;
    private final int[][] streets;
    private final int[] depths;
    private final List<String> lines = new ArrayList<>();
    private final String law;
    private final int[] rooms = new int[5];
    private final int[][] ways = new int[14][14];
    private final String[] plans = new String[5];

    private RelationsTest(int seed) {
        random = new Random(seed);
        name = "city " + seed + ": ";
        many = 2 + upTo(5);
        streets = new int[many][];
        depths = new int[many];
        for (int i = 0; i < many; i++) {
            streets[i] = new int[] {upTo(99), upTo(9), upTo(99)};
            depths[i] = upTo(2) * upTo(30);
        }
        drawRoads();
        law = "w" + oneOf("l", "l*2", "r+l", "[9-l]/2", "l*[n+1]") + "(" + oneOf("1=1", "i>0", "r<8|l=3", "!r=2")
                + ");c" + oneOf("1", "d/9", "r%3", "g/20") + "(" + oneOf("1=1", "d>5", "h<50") + ");s"
                + oneOf("3", "h/10+1", "0", "g/4") + "(" + oneOf("1=1", "i<4", "r=0|r>4") + ");u"
                + oneOf("0", "1", "k", "r/3") + "(1=1)";
        for (int k = 0; k < 5; k++) {
            rooms[k] = upTo(2) > 0 ? 1 + upTo(98) : 0;
            plans[k] = drawPlan();
        }
    }

    public static void main(String[] args) {
        for (int seed = 0; seed < CITIES; seed++) {
            RelationsTest city = new RelationsTest(seed);
            city.nightsAndTried();
            city.nothingIsLost();
            city.waysAreDriven();
            city.roundsAreDriven();
            city.pitIsByWays();
            city.cutIsByWays();
            city.enoughIsTheFewest();
            city.oneStopIsAPlan();
            city.shareIsPoured();
            city.sleepfulIsPoured();
            city.outIsByLampsOfNone();
            city.latestIsDriven();
            city.rowsFitTheirSums();
            city.keptIsUndone();
        }
        DUE.end();
    }

    private int upTo(int most) {
        return random.nextInt(most + 1);
    }

    private String oneOf(String... texts) {
        return texts[random.nextInt(texts.length)];
    }

    private static char letter(int i) {
        return (char) ('a' + i);
    }

    private void drawRoads() {
        for (int i = 0; i < many; i++) {
            for (int j = i + 1; j < many; j++) {
                if (upTo(2) == 0 || j == i + 1 && upTo(5) > 0) {
                    lines.add("" + letter(i) + letter(j) + (1 + upTo(40)));
                }
            }
        }
    }

    private String drawPlan() {
        StringBuilder plan = new StringBuilder("+" + upTo(60));
        int stops = 1 + upTo(6);
        for (int stop = 0; stop < stops; stop++) {
            plan.append(',').append(upTo(3) == 0 ? '+' : letter(upTo(many))).append(upTo(20));
        }
        return plan.toString();
    }

    private NightCarts built() {
        return built(lines);
    }

    private NightCarts built(List<String> itsLines) {
        NightCarts x = new NightCarts();
        for (int i = 0; i < many; i++) {
            x.street(i, streets[i][0], streets[i][1], streets[i][2]);
            x.pour(i, depths[i]);
        }
        if (!itsLines.isEmpty()) {
            DUE.is(name + "roads", Due.roads(x, String.join(";", itsLines)), itsLines.size());
        }
        DUE.is(name + "law " + law, Due.law(x, law), 4);
        return x;
    }

    private NightCarts withCarts() {
        NightCarts x = built();
        for (int k = 0; k < 5; k++) {
            Due.plan(x, k, plans[k]);
            x.cart(k, rooms[k]);
        }
        return x;
    }

    private int ahead() {
        int sum = 0;
        for (int depth : depths) {
            sum += depth;
        }
        return sum;
    }

    private void nightsAndTried() {
        NightCarts x = withCarts();
        int slept = x.tried(0);
        int swept = x.tried(1);
        DUE.is(name + "strike(0)", x.strike(0), slept);
        int left = 0;
        for (int i = 0; i < many; i++) {
            left += x.tried(10 + i);
        }
        DUE.is(name + "swept is what stands ahead of it", left, swept);
        DUE.is(name + "strike(600) is a night without carts", x.strike(600), built().tried(0));
        for (int k = 0; k < 5; k++) {
            int has = x.tried(30 + k);
            DUE.is(name + "has within its room", rooms[k] == 0 ? has == -1 : has >= 0 && has <= rooms[k], true);
        }
        DUE.is(name + "nights(1)", x.nights(1), slept);
        DUE.is(name + "SLEPT", x.count(1), slept);
        DUE.is(name + "SWEPT", x.count(2), swept);
        DUE.is(name + "nothing is left", x.keep(), 0);
        int second = x.tried(0);
        DUE.is(name + "the second night", x.nights(1), second);
        DUE.is(name + "SLEPT in both", x.count(1), slept + second);
        NightCarts y = withCarts();
        DUE.is(name + "both at once", y.nights(2), slept + second);
    }

    /** No street of these cities comes up to 999, so all yards are somewhere. */
    private void nothingIsLost() {
        NightCarts x = withCarts();
        DUE.is(name + "all yards", x.tried(1) + x.tried(2) + x.tried(3), ahead() + x.tried(4));
    }

    private int driven(int[] stops, int howMany) {
        NightCarts x = built();
        x.cart(2, 9);
        StringBuilder plan = new StringBuilder();
        for (int p = 0; p < howMany; p++) {
            plan.append(p == 0 ? "" : ",").append(letter(stops[p])).append('0');
        }
        Due.plan(x, 2, plan.toString());
        return x.tried(42);
    }

    private void waysAreDriven() {
        NightCarts x = built();
        for (int i = 0; i < many; i++) {
            for (int j = 0; j < many; j++) {
                ways[i][j] = x.way(i, j);
            }
        }
        for (int i = 0; i < many; i++) {
            DUE.is(name + "way and plan to " + i, ways[0][i], driven(new int[] {i}, 1));
            for (int j = 0; j < many; j++) {
                DUE.is(name + "both ways", ways[i][j], ways[j][i]);
                for (int over = 0; over < many; over++) {
                    boolean canGo = ways[i][over] >= 0 && ways[over][j] >= 0;
                    boolean isShort = ways[i][j] >= 0 && ways[i][j] <= ways[i][over] + ways[over][j];
                    DUE.is(name + "no way over " + over + " is shorter", !canGo || isShort, true);
                }
            }
        }
    }

    private void roundsAreDriven() {
        NightCarts x = built();
        int others = (1 << many) - 2 & random.nextInt();
        int howMany = Integer.bitCount(others);
        int minutes = x.round(0, others, 20);
        if (howMany == 0 || minutes < 0) {
            boolean cannot = howMany == 0;
            for (int i = 0; i < many; i++) {
                cannot |= (others >> i & 1) == 1 && ways[0][i] < 0;
            }
            DUE.is(name + "round", cannot ? minutes : 0, howMany == 0 ? -1 : -2);
            return;
        }
        int[] row = new int[howMany + 1];
        int seen = 0;
        for (int p = 0; p < howMany; p++) {
            row[p] = x.round(0, others, p);
            seen |= 1 << row[p];
        }
        DUE.is(name + "all others", seen, others);
        DUE.is(name + "the round by a plan", driven(row, howMany + 1), minutes);
        betterRounds(row, howMany, new int[howMany + 1], 0);
    }

    private void betterRounds(int[] row, int howMany, int[] other, int place) {
        if (place == howMany) {
            int its = minutesOf(row);
            int others = minutesOf(other);
            boolean isLess = Arrays.compare(other, row) < 0;
            DUE.is(name + "no better round", others < its || others == its && isLess, false);
            return;
        }
        for (int p = 0; p < howMany; p++) {
            boolean taken = false;
            for (int q = 0; q < place; q++) {
                taken |= other[q] == row[p];
            }
            if (!taken) {
                other[place] = row[p];
                betterRounds(row, howMany, other, place + 1);
            }
        }
    }

    private int minutesOf(int[] row) {
        int minutes = 0;
        int at = 0;
        for (int next : row) {
            minutes += ways[at][next];
            at = next;
        }
        return minutes;
    }

    private void pitIsByWays() {
        NightCarts x = built();
        int[] best = {-1, 0, -1, 0};
        int most = -1;
        for (int i = 0; i < many; i++) {
            int reached = 0;
            int farthest = 0;
            int sum = 0;
            for (int j = 0; j < many; j++) {
                reached += ways[i][j] > 0 ? 1 : 0;
                farthest = Math.max(farthest, ways[i][j]);
                sum += Math.max(0, ways[i][j]);
            }
            if (reached > most) {
                most = reached;
                best = new int[] {i, farthest, i, sum};
            } else if (reached == most) {
                best[0] = farthest < best[1] ? i : best[0];
                best[1] = Math.min(farthest, best[1]);
                best[2] = sum < best[3] ? i : best[2];
                best[3] = Math.min(sum, best[3]);
            }
        }
        for (int what = 0; what < 4; what++) {
            DUE.is(name + "pitAt(" + what + ")", x.pitAt(what), best[what]);
        }
    }

    private void cutIsByWays() {
        NightCarts x = built();
        int cuts = 0;
        int first = -2;
        int second = -2;
        for (String line : lines) {
            List<String> others = new ArrayList<>(lines);
            others.remove(line);
            int i = line.charAt(0) - 'a';
            int j = line.charAt(1) - 'a';
            if (built(others).way(i, j) == -2) {
                first = cuts == 0 ? i : first;
                second = cuts == 0 ? j : second;
                cuts++;
            }
        }
        DUE.is(name + "cut(0)", x.cut(0), cuts);
        DUE.is(name + "cut(1)", x.cut(1), first);
        DUE.is(name + "cut(2)", x.cut(2), second);
    }

    /** A street alone in its city, with houses that can be counted. */
    private NightCarts alone(int i, int yards) {
        NightCarts x = new NightCarts();
        x.street(i, Math.max(1, streets[i][0]), streets[i][1], streets[i][2]);
        x.pour(i, depths[i]);
        x.pour(i, yards);
        Due.law(x, law);
        return x;
    }

    private void enoughIsTheFewest() {
        int i = upTo(many - 1);
        int due = -2;
        for (int yards = 0; yards <= 999 - depths[i] && due < 0; yards++) {
            due = alone(i, yards).tried(0) == 10 * Math.max(1, streets[i][0]) ? yards : -2;
        }
        DUE.is(name + "enough(" + i + ")", alone(i, 0).enough(i), due);
    }

    private void oneStopIsAPlan() {
        int k = upTo(4);
        int room = 1 + upTo(98);
        int yards = 1 + upTo(98);
        int best = -2;
        int most = -2;
        for (int i = 0; i < many; i++) {
            NightCarts x = built();
            x.cart(k, room);
            Due.plan(x, k, "+" + yards + "," + letter(i) + yards);
            if (x.tried(0) > most) {
                most = x.tried(0);
                best = i;
            }
        }
        NightCarts x = withCarts();
        x.cart(k, room);
        DUE.is(name + "oneStop(" + k + ", " + yards + ", 0)", x.oneStop(k, yards, 0), best);
        DUE.is(name + "oneStop(" + k + ", " + yards + ", 1)", x.oneStop(k, yards, 1), most);
        DUE.is(name + "its plan stays", x.count(100 + k), plans[k].split(",").length);
    }

    private int bitsOf(int howMany) {
        int bits = 0;
        for (int turn = 0; turn < howMany; turn++) {
            bits |= 1 << upTo(many - 1);
        }
        return bits;
    }

    private void shareIsPoured() {
        int bits = bitsOf(6);
        int yards = upTo(120);
        NightCarts x = built();
        int least = x.share(yards, bits, 20);
        int[] parts = new int[many];
        int sum = 0;
        for (int i = 0; i < many; i++) {
            parts[i] = (bits >> i & 1) == 1 ? x.share(yards, bits, i) : 0;
            sum += parts[i];
        }
        DUE.is(name + "all yards are left", sum, yards);
        int lowest = 999;
        int short1 = 0;
        for (int i = 0; i < many; i++) {
            if ((bits >> i & 1) == 1) {
                lowest = Math.min(lowest, x.pour(i, parts[i]));
                short1 += Math.max(0, least + 1 - depths[i]);
            }
        }
        DUE.is(name + "the least depth", lowest, least);
        DUE.is(name + "a yard more is too much", short1 > yards, true);
        for (int i = 0; i < many; i++) {
            boolean isLast = bits >> i <= 1;
            boolean isIn = (bits >> i & 1) == 1;
            boolean isNeeded = parts[i] == Math.max(0, least - depths[i]);
            DUE.is(name + "only the last one has more than it needs", !isIn || isLast || isNeeded, true);
        }
    }

    /** The law asks the depth for s nowhere, so who can sleep is seen by pouring. */
    private void sleepfulIsPoured() {
        int bits = bitsOf(7);
        int most = upTo(60);
        int[] needed = new int[many];
        for (int i = 0; i < many; i++) {
            NightCarts x = built();
            for (int yards = 0; yards < 200 && x.sleepful(0, 1 << i, 2) == 0; yards++) {
                x.pour(i, 1);
            }
            needed[i] = x.count(70 + i) - depths[i];
        }
        int[] best = {-1, 0, 0};
        for (int set = 0; set < 1 << many; set++) {
            int yards = 0;
            int houses = 0;
            boolean fits = (set & ~bits) == 0;
            for (int i = 0; i < many; i++) {
                boolean isIn = (set >> i & 1) == 1;
                yards += isIn ? needed[i] : 0;
                houses += isIn ? streets[i][0] : 0;
                fits &= isIn || (bits >> i & 1) == 0 || needed[i] > 0;
            }
            if (fits && yards <= most && (houses > best[0] || houses == best[0] && yards < best[1])) {
                best = new int[] {houses, yards, set};
            }
        }
        NightCarts x = built();
        for (int what = 0; what < 3; what++) {
            DUE.is(name + "sleepful(" + most + ", " + bits + ", " + what + ")", x.sleepful(most, bits, what),
                    best[what]);
        }
    }

    /** What lamps waste is seen where the street is deep enough; w asks the depth nowhere. */
    private int wasted(int i, int lamps) {
        NightCarts x = new NightCarts();
        x.street(i, streets[i][0], lamps, streets[i][2]);
        x.pour(i, 999);
        Due.law(x, law.substring(0, law.indexOf(';')));
        return x.tried(2);
    }

    private void outIsByLampsOfNone() {
        int howMany = 1 + upTo(Math.min(5, many) - 1);
        int[] best = null;
        for (int set = 0; set < 1 << many; set++) {
            int less = 0;
            for (int i = 0; i < many; i++) {
                less += (set >> i & 1) == 1 ? wasted(i, streets[i][1]) - wasted(i, 0) : 0;
            }
            if (Integer.bitCount(set) == howMany && (best == null || less > best[0])) {
                best = new int[] {less, set};
            }
        }
        NightCarts x = built();
        DUE.is(name + "out(" + howMany + ", 0) by " + law, x.out(howMany, 0), best[0]);
        DUE.is(name + "out(" + howMany + ", 1) by " + law, x.out(howMany, 1), best[1]);
    }

    private void latestIsDriven() {
        int n = 1 + upTo(5);
        int[] stops = new int[n];
        int[] bytes = new int[3 * n];
        int start = Integer.MAX_VALUE;
        boolean comes = true;
        for (int p = 0; p < n; p++) {
            stops[p] = upTo(many - 1);
            int minute = 60 * p + upTo(400);
            bytes[3 * p] = stops[p];
            bytes[3 * p + 1] = minute >> 8;
            bytes[3 * p + 2] = minute & 255;
            comes &= ways[0][stops[p]] >= 0;
            start = Math.min(start, minute - driven(stops, p + 1));
        }
        NightCarts x = built();
        Due.bytes(x, bytes);
        DUE.is(name + "latest", x.latest(n), comes && start >= 0 ? start : -2);
    }

    private void rowsFitTheirSums() {
        NightCarts x = built();
        int[] bytes = new int[20];
        for (int p = 0; p < 20; p++) {
            bytes[p] = upTo(12);
        }
        int[] sums = new int[3];
        for (int job = 0; job < 8; job++) {
            Due.bytes(x, bytes);
            int k = x.jobs(8, 3, job);
            sums[k < 0 ? 0 : k] += bytes[job];
        }
        Due.bytes(x, bytes);
        DUE.is(name + "the longest", x.jobs(8, 3, 10), Math.max(sums[0], Math.max(sums[1], sums[2])));
        int yards = upTo(40);
        Due.bytes(x, bytes);
        int heaps = x.load(8, yards, 1);
        int itsYards = 0;
        int itsStars = 0;
        for (int p = 0; p < 8; p++) {
            itsYards += (heaps >> p & 1) * bytes[2 * p];
            itsStars += (heaps >> p & 1) * bytes[2 * p + 1];
        }
        Due.bytes(x, bytes);
        DUE.is(name + "stars of the load", x.load(8, yards, 0), heaps < 0 ? -2 : itsStars);
        DUE.is(name + "yards of the load", heaps < 0 ? yards : itsYards, yards);
        thievesFit(x, bytes, yards);
        bridesFit(x, bytes);
    }

    private void thievesFit(NightCarts x, int[] bytes, int missing) {
        Due.bytes(x, bytes);
        int sets = x.thieves(10, missing, 0);
        Due.bytes(x, bytes);
        int first = x.thieves(10, missing, 1);
        Due.bytes(x, bytes);
        int surely = x.thieves(10, missing, 2);
        int sum = 0;
        for (int p = 0; p < 10; p++) {
            sum += (first >> p & 1) * bytes[p];
        }
        DUE.is(name + "the first set fits", sets == 0 ? missing : sum, missing);
        DUE.is(name + "one set is sure", sets == 1 ? surely : first, first);
        DUE.is(name + "who surely was one is in the first", surely & ~first, 0);
        for (int p = 0; p < 10 && sets > 0; p++) {
            int[] without = bytes.clone();
            without[p] = 251;
            Due.bytes(x, without);
            DUE.is(name + "sets without thief " + p, x.thieves(10, missing, 0) == 0, (surely >> p & 1) == 1);
        }
    }

    private void bridesFit(NightCarts x, int[] wishes) {
        int n = Math.min(6, many);
        int[] bytes = new int[2 * n];
        for (int p = 0; p < n; p++) {
            bytes[p] = 8 * wishes[p];
            bytes[n + p] = (p + wishes[0]) % n;
        }
        int missing = 0;
        int seen = 0;
        for (int p = 0; p < n; p++) {
            Due.bytes(x, bytes);
            int i = x.brides(n, p);
            boolean isOne = i >= 0 && i < n;
            seen |= isOne ? 1 << i : 0;
            missing += isOne ? Math.max(0, bytes[p] - streets[i][2]) : 0;
        }
        DUE.is(name + "each street has a bride", seen, (1 << n) - 1);
        Due.bytes(x, bytes);
        DUE.is(name + "what is missing", x.brides(n, 10), missing);
    }

    private void keptIsUndone() {
        NightCarts x = withCarts();
        DUE.is(name + "kept yards", x.keep(), ahead());
        int slept = x.nights(3);
        x.pour(0, 5);
        DUE.is(name + "undo", x.undo(), true);
        int[] bytes = new int[2 * many];
        for (int i = 0; i < many; i++) {
            bytes[2 * i] = depths[i] >> 8;
            bytes[2 * i + 1] = depths[i] & 255;
        }
        Due.bytes(x, bytes);
        DUE.is(name + "depths are right again", x.check(many), -1);
        DUE.is(name + "the night", x.count(0), 0);
        DUE.is(name + "the same nights once more", x.nights(3), slept);
    }
}
