import java.util.function.ToIntFunction;

/** "A call that is refused changes nothing but the tape, where it is told", for each call; questions change nothing. */
public final class RefusedTest {
    private static final Due DUE = new Due();
    private static final int KEPT_YARDS = 145;
    private static final int FIRST = Integer.MIN_VALUE;
    private static final int LAST = Integer.MAX_VALUE;

    public static void main(String[] args) {
        cityIsRefused();
        textsAreRefused();
        nightsAreRefused();
        choicesAreRefused();
        tapesAreRefused();
        undoIsRefused();
        faultsEmptyTheTape();
        answersEmptyTheTape();
        questionsChangeNothing();
        DUE.end();
    }

    /** Ten streets, two carts, a law, roads, two nights gone by, something kept; the tape has the ten depths. */
    private static NightCarts city() {
        NightCarts x = Due.city(10);
        Due.roads(x, "ab9;bc8;cd7;da6;ef5;fg4");
        Due.law(x, "w1(l>2);c1(r=3);s3(i<4);s5(1=1);u1(k=2)");
        x.cart(0, 40);
        x.cart(2, 30);
        Due.plan(x, 0, "+40,b9,c9,d9,n9");
        Due.plan(x, 2, "+30,d30,+5");
        Due.plan(x, 3, "a1");
        x.nights(2);
        int[] bytes = new int[20];
        for (int i = 0; i < 10; i++) {
            x.pour(i, 10 + i);
        }
        x.keep();
        for (int i = 0; i < 10; i++) {
            int depth = x.pour(i, 300);
            bytes[2 * i] = depth >> 8;
            bytes[2 * i + 1] = depth & 255;
        }
        Due.bytes(x, bytes);
        return x;
    }

    /** All that can be asked without a change, beside the tape. */
    private static String state(NightCarts x) {
        StringBuilder all = new StringBuilder();
        for (int what = 0; what < 105; what++) {
            all.append(what == 6 ? 0 : x.count(what)).append(' ');
        }
        for (int j = 0; j < 14; j++) {
            all.append(x.way(0, j)).append(' ').append(x.way(5, j)).append(' ');
        }
        for (int what = 0; what <= 5; what++) {
            all.append(x.tried(what)).append(' ');
        }
        int[] others = {10, 11, 12, 13, 19, 30, 32, 40, 42};
        for (int what : others) {
            all.append(x.tried(what)).append(' ');
        }
        return all.toString();
    }

    private static void stays(String name, int want, ToIntFunction<NightCarts> call) {
        NightCarts x = city();
        String before = state(x);
        DUE.is(name, call.applyAsInt(x), want);
        DUE.is(name + ": nothing is changed", state(x).equals(before), true);
        DUE.is(name + ": the tape is as long", x.count(6), 20);
        DUE.is(name + ": the tape is the same", x.check(10), -1);
        DUE.is(name + ": something was kept", x.undo(), true);
        DUE.is(name + ": the same was kept", x.keep(), KEPT_YARDS);
    }

    private static void none(String name, ToIntFunction<NightCarts> call) {
        stays(name, -1, call);
    }

    private static int asNumber(boolean answer) {
        return answer ? 1 : 0;
    }

    private static void cityIsRefused() {
        int[][] streets = {{-1, 1, 1, 1}, {14, 1, 1, 1}, {3, -1, 1, 1}, {3, 100, 1, 1}, {3, 1, -1, 1}, {3, 1, 10, 1},
            {3, 1, 1, -1}, {3, 1, 1, 100}, {10, 1, 1, 100}, {FIRST, 1, 1, 1}, {LAST, 1, 1, 1}, {3, FIRST, LAST, 1}};
        for (int[] each : streets) {
            stays("promise 2: street", 0, x -> asNumber(x.street(each[0], each[1], each[2], each[3])));
        }
        int[][] carts = {{-1, 5}, {5, 5}, {0, 0}, {0, 100}, {1, 0}, {1, 100}, {FIRST, 5}, {LAST, 5}, {0, FIRST},
            {0, LAST}};
        for (int[] each : carts) {
            stays("promise 3: cart", 0, x -> asNumber(x.cart(each[0], each[1])));
        }
        int[][] pours = {{-1, 5}, {10, 5}, {13, 5}, {14, 5}, {0, -1}, {0, 1000}, {FIRST, 5}, {0, FIRST}, {0, LAST}};
        for (int[] each : pours) {
            none("promise 4: pour", x -> x.pour(each[0], each[1]));
        }
    }

    private static void textsAreRefused() {
        for (int n : new int[] {0, -1, 21, 200, 201, 240, 241, FIRST, LAST}) {
            none("promise 6: law(" + n + ")", x -> x.law(n));
            none("promise 7: roads(" + n + ")", x -> x.roads(n));
            none("promise 8: plan(0, " + n + ")", x -> x.plan(0, n));
        }
        for (int k : new int[] {-1, 5, FIRST, LAST}) {
            none("promise 8: plan(" + k + ", 2)", x -> x.plan(k, 2));
        }
        NightCarts x = city();
        for (int turn = 0; turn < 12; turn++) {
            x.feed(turn, turn, turn, turn, turn);
        }
        String before = state(x);
        DUE.is("promise 5: a full tape", x.feed(-1, -1, -1, -1, -1), -1);
        DUE.is("promise 5: nothing is changed", state(x).equals(before), true);
        DUE.is("promise 5: the tape is as long", x.count(6), 260);
        DUE.is("promise 5: the tape is the same", x.check(10), -1);
    }

    private static void nightsAreRefused() {
        for (int n : new int[] {0, -1, 21, FIRST, LAST}) {
            none("promise 9: nights(" + n + ")", x -> x.nights(n));
        }
        for (int what : new int[] {-1, 6, 9, 20, 24, 31, 35, 41, 45, FIRST, LAST}) {
            none("promise 10: tried(" + what + ")", x -> x.tried(what));
        }
        for (int minute : new int[] {-1, 601, FIRST, LAST}) {
            none("promise 17: strike(" + minute + ")", x -> x.strike(minute));
        }
        for (int i : new int[] {-1, 10, 14, FIRST, LAST}) {
            none("promise 18: enough(" + i + ")", x -> x.enough(i));
        }
        int[][] stops = {{-1, 1, 0}, {1, 1, 0}, {5, 1, 0}, {0, 0, 0}, {0, 100, 0}, {0, 1, -1}, {0, 1, 2}};
        for (int[] each : stops) {
            none("promise 19: oneStop", x -> x.oneStop(each[0], each[1], each[2]));
        }
    }

    private static void choicesAreRefused() {
        int[][] ways = {{-1, 0}, {0, -1}, {10, 0}, {0, 14}, {FIRST, LAST}};
        for (int[] each : ways) {
            none("promise 11: way", x -> x.way(each[0], each[1]));
        }
        int[][] rounds = {{-1, 2, 20}, {10, 2, 20}, {0, 0, 20}, {0, 3, 20}, {0, 510, 20}, {0, 1024, 20}, {0, 2, 1}};
        for (int[] each : rounds) {
            none("promise 12: round", x -> x.round(each[0], each[1], each[2]));
        }
        int[][] shares = {{-1, 1, 20}, {601, 1, 20}, {1, 0, 20}, {1, 127, 20}, {1, 1024, 20}, {1, 1, 1}, {1, 1, -1}};
        for (int[] each : shares) {
            none("promise 13: share", x -> x.share(each[0], each[1], each[2]));
        }
        int[][] sleepfuls = {{-1, 1, 0}, {301, 1, 0}, {1, 0, 0}, {1, 511, 0}, {1, 1024, 0}, {1, 1, 3}, {1, 1, -1}};
        for (int[] each : sleepfuls) {
            none("promise 14: sleepful", x -> x.sleepful(each[0], each[1], each[2]));
        }
        for (int what : new int[] {-1, 4, FIRST, LAST}) {
            none("promise 15: pitAt(" + what + ")", x -> x.pitAt(what));
            none("promise 16: cut(" + what + ")", x -> x.cut(what));
        }
        int[][] outs = {{0, 0}, {6, 0}, {1, 2}, {1, -1}, {FIRST, 0}, {LAST, 0}};
        for (int[] each : outs) {
            none("promise 20: out", x -> x.out(each[0], each[1]));
        }
        for (int what : new int[] {-1, 8, 20, 95, 105, FIRST, LAST}) {
            none("promise 29: count(" + what + ")", x -> x.count(what));
        }
    }

    private static void tapesAreRefused() {
        for (int n : new int[] {0, -1, 9, 21, FIRST, LAST}) {
            none("promise 21: jobs(" + n + ")", x -> x.jobs(n, 1, 10));
            none("promise 21: jobs(" + n + "), no such carts", x -> x.jobs(n, 4, 10));
        }
        int[][] loads = {{0, 1, 0}, {9, 1, 0}, {-1, 1, 0}, {1, -1, 0}, {1, 1000, 0}, {1, 1, 2}, {1, 1, -1},
            {1 << 30, 1, 0}};
        for (int[] each : loads) {
            none("promise 22: load", x -> x.load(each[0], each[1], each[2]));
        }
        for (int n : new int[] {0, -1, 7, 11, 1 << 30, FIRST, LAST}) {
            none("promise 23: brides(" + n + ")", x -> x.brides(n, 10));
            none("promise 25: latest(" + n + ")", x -> x.latest(n));
        }
        int[][] thieves = {{0, 1, 0}, {11, 1, 0}, {1, -1, 0}, {1, 2551, 0}, {1, 1, 3}, {1, 1, -1}, {FIRST, 1, 0}};
        for (int[] each : thieves) {
            none("promise 24: thieves", x -> x.thieves(each[0], each[1], each[2]));
        }
        for (int n : new int[] {-1, 11, 14, 15, 1 << 30, FIRST, LAST}) {
            stays("promise 28: check(" + n + ")", -2, x -> x.check(n));
        }
    }

    private static void undoIsRefused() {
        NightCarts x = Due.city(3);
        x.pour(1, 5);
        x.nights(1);
        x.pour(2, 7);
        x.feed(1, 2, 3, 4, 5);
        String before = state(x);
        DUE.is("promise 27: none was kept", x.undo(), false);
        DUE.is("promise 27: nothing is changed", state(x).equals(before), true);
        DUE.is("promise 27: the tape stays", x.count(6), 20);
    }

    private static void empties(String name, int want, ToIntFunction<NightCarts> call, int... bytes) {
        NightCarts x = city();
        x.check(0);
        Due.bytes(x, bytes);
        String before = state(x);
        DUE.is(name, call.applyAsInt(x), want);
        DUE.is(name + ": the tape is empty then", x.count(6), 0);
        DUE.is(name + ": nothing else is changed", state(x).equals(before), true);
        DUE.is(name + ": something was kept", x.undo(), true);
        DUE.is(name + ": the same was kept", x.keep(), KEPT_YARDS);
    }

    private static int[] signs(String text) {
        return text.chars().toArray();
    }

    private static void faultsEmptyTheTape() {
        String[] laws = {"w9(1=1);", "w9(1=1);c123456(1=1)", "w9(((((((1=1)))))))", "x", Due.many(17, "w9(i=0)", ";")};
        int[] lawFaults = {-1008, -2014, -5008, -1000, -4128};
        for (int p = 0; p < laws.length; p++) {
            int n = laws[p].length();
            empties("promise 6: law " + laws[p], lawFaults[p], x -> x.law(n), signs(laws[p]));
        }
        String[] roads = {"ac1;", "ac1;bd0", "ac1;dd1", "ac1;dk1", Due.many(41, "ac1", ";")};
        int[] roadFaults = {-1004, -3006, -6005, -7005, -4160};
        for (int p = 0; p < roads.length; p++) {
            int n = roads[p].length();
            empties("promise 7: roads " + roads[p], roadFaults[p], x -> x.roads(n), signs(roads[p]));
        }
        String[] plans = {"a1,", "a1,b123", Due.many(17, "a1", ",")};
        int[] planFaults = {-1003, -1006, -4048};
        for (int p = 0; p < plans.length; p++) {
            int n = plans[p].length();
            empties("promise 8: plan " + plans[p], planFaults[p], x -> x.plan(0, n), signs(plans[p]));
            empties("promise 8: plan " + plans[p], planFaults[p], x -> x.plan(4, n), signs(plans[p]));
        }
    }

    private static void answersEmptyTheTape() {
        empties("promise 21: jobs", 5, x -> x.jobs(2, 3, 10), 4, 5);
        empties("promise 21: no such carts", -4, x -> x.jobs(2, 4, 10), 4, 5);
        empties("promise 21: no such place", -4, x -> x.jobs(2, 3, 2), 4, 5);
        empties("promise 22: load", 9, x -> x.load(1, 4, 0), 4, 9);
        empties("promise 22: none is just so", -2, x -> x.load(1, 5, 0), 4, 9);
        empties("promise 23: brides", 0, x -> x.brides(1, 10), 4, 9);
        empties("promise 23: a street that is not told", -2, x -> x.brides(1, 10), 4, 10);
        empties("promise 23: one twice", -2, x -> x.brides(2, 10), 4, 4, 9, 9);
        empties("promise 23: no such place", -4, x -> x.brides(1, 1), 4, 9);
        empties("promise 24: thieves", 1, x -> x.thieves(2, 4, 1), 4, 9);
        empties("promise 24: none fits", -2, x -> x.thieves(2, 5, 1), 4, 9);
        empties("promise 25: latest", 247, x -> x.latest(1), 1, 1, 0);
        empties("promise 25: none", -2, x -> x.latest(1), 4, 1, 0);
        empties("promise 25: a street that is not told", -3, x -> x.latest(1), 10, 1, 0);
        empties("promise 28: not so", 0, x -> x.check(1), 4, 9);
        empties("promise 28: right", -1, x -> x.check(1), 310 >> 8, 310 & 255);
    }

    private static void questionsChangeNothing() {
        stays("promise 11: way", 9, x -> x.way(0, 1));
        stays("promise 11: no way", -2, x -> x.way(0, 4));
        stays("promise 12: round", 30, x -> x.round(0, 14, 20));
        stays("promise 12: one can't be come to", -2, x -> x.round(0, 16, 20));
        stays("promise 13: share", 315, x -> x.share(9, 3, 20));
        stays("promise 14: sleepful", 30, x -> x.sleepful(9, 3, 0));
        stays("promise 15: pitAt", 0, x -> x.pitAt(0));
        stays("promise 16: cut", 2, x -> x.cut(0));
        stays("promise 17: strike", 0, x -> x.strike(600) - x.strike(599));
        stays("promise 18: enough", 0, x -> x.enough(3));
        stays("promise 19: oneStop", 0, x -> x.oneStop(2, 99, 0));
        stays("promise 20: out", 1 << 3, x -> x.out(1, 1));
        stays("promise 29: count", 2, x -> x.count(0));
        for (int what : new int[] {0, 1, 2, 3, 4, 5, 10, 19, 30, 32, 40, 42}) {
            stays("promise 10: tried(" + what + ")", 0, x -> x.tried(what) - x.tried(what));
        }
    }
}
