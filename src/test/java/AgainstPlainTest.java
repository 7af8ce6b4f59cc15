import java.util.ArrayList;
import java.util.List;
import java.util.Random;

/** Long runs of calls, drawn by fixed seeds, on the class and on Plain: both must answer alike. */
public final class AgainstPlainTest {
    private static final int RUNS = 600;
    private static final int CALLS = 500;
    private static final Due DUE = new Due();

    private final Random random;
    private final NightCarts x = new NightCarts();
    private final Plain y = new Plain();
    private final List<String> calls = new ArrayList<>();
    private final int dull;
    private boolean alike = true;

    private AgainstPlainTest(int seed) {
        random = new Random(seed);
        dull = 2 + random.nextInt(13);
    }

    public static void main(String[] args) {
        int runs = args.length > 0 ? Integer.parseInt(args[0]) : RUNS;
        for (int seed = 0; seed < runs; seed++) {
            new AgainstPlainTest(seed).run(seed);
        }
        DUE.end();
    }

    private void run(int seed) {
        tellCity();
        while (calls.size() < CALLS && alike) {
            if (seed % 4 == 3) {
                readSome();
            } else {
                call();
            }
        }
        if (!alike) {
            System.out.println("seed " + seed + ", the last calls:");
            for (String call : calls.subList(Math.max(0, calls.size() - 12), calls.size())) {
                System.out.println("  " + call);
            }
        }
    }

    private void same(String call, long got, long want) {
        calls.add(call + " = " + want);
        alike &= got == want;
        DUE.is(call, got, want);
    }

    private void same(String call, boolean got, boolean want) {
        same(call, got ? 1 : 0, want ? 1 : 0);
    }

    private int upTo(int most) {
        return random.nextInt(most + 1);
    }

    /** Mostly within bounds, seldom just beyond them, most seldom far beyond them. */
    private int about(int least, int most) {
        switch (random.nextInt(40)) {
            case 0: return least - 1;
            case 1: return most + 1;
            case 2: return least;
            case 3: return most;
            case 4: return random.nextInt(4) > 0 ? most : oneOfNumbers(Integer.MIN_VALUE, Integer.MAX_VALUE,
                    Integer.MIN_VALUE + 20, Integer.MAX_VALUE / 2 + 1, Integer.MAX_VALUE / 3 + 1, random.nextInt());
            default: return least + upTo(most - least);
        }
    }

    private int streetNumber() {
        return random.nextInt(12) == 0 ? about(0, 13) : upTo(dull - 1);
    }

    private int streetBits(int most) {
        int bits = 0;
        int many = 1 + upTo(most);
        for (int p = 0; p < many; p++) {
            bits |= 1 << (streetNumber() & 31);
        }
        return random.nextInt(60) == 0 ? random.nextInt() : bits;
    }

    private String oneOf(String... texts) {
        return texts[random.nextInt(texts.length)];
    }

    private void tellCity() {
        boolean all = random.nextInt(4) > 0;
        for (int i = 0; i < dull; i++) {
            for (int turn = 0; turn < 9 && !alreadyTold(i) && (all || random.nextInt(4) > 0); turn++) {
                tellStreet(i);
            }
        }
        read("roads", roadsText(), 0);
        read("law", lawText(), 0);
        for (int k = 0; k < 3; k++) {
            tellCart(k);
            read("plan", planText(), k);
        }
    }

    private boolean alreadyTold(int i) {
        return (y.count(3) >> i & 1) == 1;
    }

    private void readSome() {
        switch (random.nextInt(5)) {
            case 0: read("roads", roadsText(), 0); break;
            case 1: read("plan", planText(), about(0, 4)); break;
            default: read("law", random.nextBoolean() ? deepText() : lawText(), 0); break;
        }
    }

    /** A clause with five to eight brackets open in one another. */
    private String deepText() {
        StringBuilder text = new StringBuilder(oneOf("w", "c", "s", "u"));
        if (random.nextInt(3) == 0) {
            int many = 5 + upTo(2);
            text.append("[".repeat(many)).append("d").append("]".repeat(many)).append("(1=1)");
        } else {
            text.append("1(");
            appendDeep(text, 4 + upTo(2));
            text.append(")");
        }
        return spoilt(text.toString(), "wcsu()[]!&|<>=+-*/%0123456789ihldgrnk; ");
    }

    private void appendDeep(StringBuilder text, int open) {
        text.append(random.nextInt(4) == 0 ? "1=1" + oneOf("&", "|") : "");
        if (open <= 0) {
            text.append("d<5");
        } else if (random.nextInt(3) == 0) {
            text.append(random.nextBoolean() ? "5>" : "").append("[".repeat(open)).append("d");
            text.append("]".repeat(open)).append(text.indexOf("5>") < 0 ? "<5" : "");
        } else if (random.nextBoolean()) {
            text.append("!");
            appendDeep(text, open - 1);
        } else {
            text.append("(");
            appendDeep(text, open - 1);
            text.append(")");
        }
        text.append(random.nextInt(4) == 0 ? oneOf("&", "|") + "2=2" : "");
    }

    private void tellStreet(int i) {
        int houses = about(0, 99);
        int lamps = about(0, 9);
        int stars = about(0, 99);
        same("street(" + i + ", " + houses + ", " + lamps + ", " + stars + ")", x.street(i, houses, lamps, stars),
                y.street(i, houses, lamps, stars));
    }

    private void tellCart(int k) {
        int room = about(1, 99);
        same("cart(" + k + ", " + room + ")", x.cart(k, room), y.cart(k, room));
    }

    private void feedBytes(int[] bytes) {
        for (int from = 0; from < bytes.length; from += 20) {
            int[] words = new int[5];
            for (int p = 0; p < 5; p++) {
                words[p] = Due.word(bytes, from + 4 * p);
            }
            same("feed", x.feed(words[0], words[1], words[2], words[3], words[4]),
                    y.feed(words[0], words[1], words[2], words[3], words[4]));
        }
    }

    private void read(String kind, String text, int k) {
        int[] bytes = text.chars().toArray();
        feedBytes(bytes);
        int n = random.nextInt(30) == 0 ? about(1, bytes.length) : bytes.length;
        String call = kind + " of cart " + k + " by " + n + " of " + text;
        if (kind.equals("law")) {
            same(call, x.law(n), y.law(n));
        } else if (kind.equals("roads")) {
            same(call, x.roads(n), y.roads(n));
        } else {
            same(call, x.plan(k, n), y.plan(k, n));
        }
    }

    private String spoilt(String text, String signs) {
        if (random.nextInt(3) > 0 || text.isEmpty()) {
            return text;
        }
        int place = random.nextInt(text.length());
        char sign = signs.charAt(random.nextInt(signs.length()));
        switch (random.nextInt(4)) {
            case 0: return text.substring(0, place) + text.substring(place + 1);
            case 1: return text.substring(0, place) + sign + text.substring(place);
            case 2: return text.substring(0, Math.max(1, place));
            default: return text.substring(0, place) + sign + text.substring(place + 1);
        }
    }

    private String roadsText() {
        StringBuilder text = new StringBuilder();
        int lines = random.nextInt(10) == 0 ? 30 + upTo(15) : 1 + upTo(dull + 4);
        for (int line = 0; line < lines && text.length() < 200; line++) {
            int minutes = random.nextInt(25) == 0 ? upTo(99) : random.nextBoolean() ? 1 + upTo(8) : 1 + upTo(98);
            int i = upTo(dull - 1);
            int j = random.nextInt(25) == 0 ? upTo(dull - 1) : (i + 1 + upTo(dull - 2)) % dull;
            text.append(line == 0 ? "" : ";").append((char) ('a' + i)).append((char) ('a' + j)).append(minutes);
        }
        return spoilt(text.toString(), "abcno;;0019, +");
    }

    private String planText() {
        StringBuilder text = new StringBuilder();
        int stops = random.nextInt(10) == 0 ? 14 + upTo(5) : 1 + upTo(8);
        for (int stop = 0; stop < stops && text.length() < 80; stop++) {
            text.append(stop == 0 ? "" : ",");
            text.append(random.nextInt(3) == 0 ? "+" : String.valueOf((char) ('a' + upTo(Math.min(13, dull)))));
            text.append(random.nextBoolean() ? upTo(9) : upTo(99));
        }
        return spoilt(text.toString(), "abcno,,0019; +");
    }

    private String lawText() {
        StringBuilder text = new StringBuilder();
        int clauses = random.nextInt(10) == 0 ? 12 + upTo(8) : 1 + upTo(7);
        for (int clause = 0; clause < clauses && text.length() < 220; clause++) {
            text.append(clause == 0 ? "" : ";").append(oneOf("w", "c", "s", "u"));
            int deep = random.nextInt(12) == 0 ? 4 : random.nextInt(3);
            text.append(clauses > 11 ? oneOf("1", "d", "l") : sumText(deep));
            text.append("(").append(clauses > 11 ? oneOf("i=0", "r<5", "1=1") : choiceText(deep)).append(")");
        }
        return spoilt(text.substring(0, Math.min(240, text.length())), "wcsu()[]!&|<>=+-*/%0123456789ihldgrnk; ");
    }

    private String sumText(int deep) {
        StringBuilder text = new StringBuilder(factorText(deep));
        while (random.nextInt(3) == 0) {
            text.append(oneOf("+", "-", "*", "/", "%")).append(factorText(deep));
        }
        return text.toString();
    }

    private String factorText(int deep) {
        switch (random.nextInt(8)) {
            case 0: return deep > 0 ? "[" + sumText(deep - 1) + "]" : "2";
            case 1: return oneOf("0", "1", "7", "30", "100", "999", "12345", "99999");
            case 2:
            case 3: return String.valueOf(upTo(20));
            default: return oneOf("i", "h", "l", "d", "g", "r", "n", "k");
        }
    }

    private String choiceText(int deep) {
        StringBuilder text = new StringBuilder(testText(deep));
        while (random.nextInt(4) == 0) {
            text.append(oneOf("&", "|")).append(testText(deep));
        }
        return text.toString();
    }

    private String testText(int deep) {
        switch (random.nextInt(7)) {
            case 0: return deep > 0 ? "!" + testText(deep - 1) : "1=1";
            case 1: return deep > 0 ? "(" + choiceText(deep - 1) + ")" : "r<6";
            case 2: return "1=1";
            default: return sumText(deep) + oneOf("<", ">", "=") + sumText(deep);
        }
    }

    private void call() {
        int kind = random.nextInt(30);
        if (kind < 10) {
            change(kind);
        } else if (kind < 20) {
            find(kind);
        } else {
            reckonTape(kind);
        }
    }

    private void change(int kind) {
        int i = streetNumber();
        int k = about(0, 4);
        switch (kind) {
            case 0: tellStreet(i); break;
            case 1: tellCart(k); break;
            case 2:
            case 3: {
                int yards = random.nextInt(4) == 0 ? about(0, 999) : upTo(60);
                same("pour(" + i + ", " + yards + ")", x.pour(i, yards), y.pour(i, yards));
                break;
            }
            case 4: read("law", lawText(), 0); break;
            case 5: read("roads", roadsText(), 0); break;
            case 6: read("plan", planText(), k); break;
            case 7: {
                int n = random.nextInt(5) == 0 ? about(1, 20) : 1;
                same("nights(" + n + ")", x.nights(n), y.nights(n));
                break;
            }
            case 8: same("keep()", x.keep(), y.keep()); break;
            default: same("undo()", x.undo(), y.undo()); break;
        }
    }

    private void find(int kind) {
        int i = streetNumber();
        int k = about(0, 4);
        int what = random.nextInt(5) == 0 ? about(0, 110) : about(0, 5);
        int small = about(0, 3);
        int place = random.nextInt(2) == 0 ? 20 : about(0, 6);
        switch (kind) {
            case 10: {
                int tried = random.nextBoolean() ? about(0, 5) : oneOfNumbers(10 + i, 30 + k, 40 + k, what);
                same("tried(" + tried + ")", x.tried(tried), y.tried(tried));
                break;
            }
            case 11: {
                int j = streetNumber();
                same("way(" + i + ", " + j + ")", x.way(i, j), y.way(i, j));
                break;
            }
            case 12: {
                int bits = random.nextInt(9) == 0 ? streetBits(7) : streetBits(5) & ~(i < 0 ? 0 : 1 << i);
                same("round(" + i + ", " + bits + ", " + place + ")", x.round(i, bits, place),
                        y.round(i, bits, place));
                break;
            }
            case 13: findShares(); break;
            case 14: same("pitAt(" + small + ")", x.pitAt(small), y.pitAt(small)); break;
            case 15: same("cut(" + small + ")", x.cut(small), y.cut(small)); break;
            case 16: {
                int minute = about(0, 600);
                same("strike(" + minute + ")", x.strike(minute), y.strike(minute));
                break;
            }
            case 17: same("enough(" + i + ")", x.enough(i), y.enough(i)); break;
            case 18: {
                int yards = about(1, 99);
                int which = about(0, 1);
                same("oneStop(" + k + ", " + yards + ", " + which + ")", x.oneStop(k, yards, which),
                        y.oneStop(k, yards, which));
                break;
            }
            default: {
                int many = about(1, 5);
                int which = about(0, 1);
                same("out(" + many + ", " + which + ")", x.out(many, which), y.out(many, which));
                break;
            }
        }
    }

    private int oneOfNumbers(int... numbers) {
        return numbers[random.nextInt(numbers.length)];
    }

    private void findShares() {
        int bits = streetBits(6);
        if (random.nextBoolean()) {
            int yards = random.nextBoolean() ? upTo(40) : about(0, 600);
            int what = random.nextInt(3) == 0 ? 20 : streetNumber();
            same("share(" + yards + ", " + bits + ", " + what + ")", x.share(yards, bits, what),
                    y.share(yards, bits, what));
        } else {
            int yards = random.nextBoolean() ? upTo(40) : about(0, 300);
            int what = about(0, 2);
            bits = random.nextInt(4) == 0 ? streetBits(9) : bits;
            same("sleepful(" + yards + ", " + bits + ", " + what + ")", x.sleepful(yards, bits, what),
                    y.sleepful(yards, bits, what));
        }
    }

    private int[] someBytes(int most) {
        int[] bytes = new int[20];
        for (int p = 0; p < bytes.length; p++) {
            bytes[p] = upTo(random.nextInt(6) == 0 ? 255 : most);
        }
        return bytes;
    }

    private void reckonTape(int kind) {
        int what = random.nextInt(2) == 0 ? 10 : about(0, 8);
        int small = about(0, 2);
        switch (kind) {
            case 20:
            case 21: {
                feedBytes(someBytes(9));
                int n = about(1, 8);
                int carts = about(1, 3);
                same("jobs(" + n + ", " + carts + ", " + what + ")", x.jobs(n, carts, what), y.jobs(n, carts, what));
                break;
            }
            case 22: {
                feedBytes(someBytes(9));
                int n = about(1, 8);
                int yards = random.nextInt(9) == 0 ? about(0, 999) : upTo(20);
                int which = about(0, 1);
                same("load(" + n + ", " + yards + ", " + which + ")", x.load(n, yards, which),
                        y.load(n, yards, which));
                break;
            }
            case 23:
            case 24: matchBrides(what); break;
            case 25: {
                feedBytes(someBytes(9));
                int n = about(1, 10);
                int missing = random.nextInt(9) == 0 ? about(0, 2550) : upTo(30);
                same("thieves(" + n + ", " + missing + ", " + small + ")", x.thieves(n, missing, small),
                        y.thieves(n, missing, small));
                break;
            }
            case 26: startLatest(); break;
            case 27: checkDepths(); break;
            default: {
                int count = random.nextInt(3) == 0 ? about(0, 7) : about(0, 105);
                same("count(" + count + ")", x.count(count), y.count(count));
                break;
            }
        }
    }

    private void matchBrides(int what) {
        int n = 1 + upTo(5);
        int[] bytes = someBytes(99);
        int from = upTo(13);
        for (int p = 0; p < n; p++) {
            bytes[n + p] = random.nextInt(30) == 0 ? upTo(20) : (from + p) % dull;
        }
        feedBytes(bytes);
        int told = random.nextInt(20) == 0 ? about(1, 6) : n;
        same("brides(" + told + ", " + what + ")", x.brides(told, what), y.brides(told, what));
    }

    private void startLatest() {
        int n = 1 + upTo(5);
        int[] bytes = new int[20];
        for (int p = 0; p < n; p++) {
            bytes[3 * p] = streetNumber() & 255;
            bytes[3 * p + 1] = random.nextInt(9) == 0 ? upTo(255) : upTo(1);
            bytes[3 * p + 2] = upTo(255);
        }
        feedBytes(bytes);
        int told = random.nextInt(20) == 0 ? about(1, 6) : n;
        same("latest(" + told + ")", x.latest(told), y.latest(told));
    }

    private void checkDepths() {
        int[] bytes = new int[40];
        for (int i = 0; i < 14; i++) {
            int depth = Math.max(0, y.count(70 + i));
            depth += random.nextInt(20) == 0 ? 1 : 0;
            bytes[2 * i] = depth >> 8;
            bytes[2 * i + 1] = depth & 255;
        }
        feedBytes(bytes);
        int n = about(0, 14);
        same("check(" + n + ")", x.check(n), y.check(n));
    }
}
