/** Compares answers with those that are due, and feeds texts and bytes to a tape. */
final class Due {
    private int asked;
    private int wrong;

    void is(String call, long got, long want) {
        asked++;
        if (got != want) {
            wrong++;
            System.out.println(call + " answered " + got + ", due is " + want);
        }
    }

    void is(String call, boolean got, boolean want) {
        is(call, got ? 1 : 0, want ? 1 : 0);
    }

    void end() {
        System.out.println(asked + " answers, " + wrong + " not as due");
        if (wrong != 0 || asked == 0) {
            System.exit(1);
        }
    }

    /** Streets 0 to many - 1, street i with 10 (i + 1) houses, i lamps and 5 i stars. */
    static NightCarts city(int many) {
        NightCarts x = new NightCarts();
        for (int i = 0; i < many; i++) {
            x.street(i, Math.min(99, 10 * (i + 1)), Math.min(9, i), 5 * i);
        }
        return x;
    }

    /** Feeds the text, filled up with bytes 0 to a multiple of twenty: how many bytes it has of its own. */
    static int text(NightCarts x, String text) {
        int[] bytes = new int[text.length()];
        for (int p = 0; p < bytes.length; p++) {
            bytes[p] = text.charAt(p);
        }
        return bytes(x, bytes);
    }

    static int bytes(NightCarts x, int... bytes) {
        for (int from = 0; from < bytes.length; from += 20) {
            x.feed(word(bytes, from), word(bytes, from + 4), word(bytes, from + 8), word(bytes, from + 12),
                    word(bytes, from + 16));
        }
        return bytes.length;
    }

    static int word(int[] bytes, int from) {
        int word = 0;
        for (int p = from; p < from + 4; p++) {
            word = word << 8 | (p < bytes.length ? bytes[p] & 255 : 0);
        }
        return word;
    }

    static int law(NightCarts x, String text) {
        return x.law(text(x, text));
    }

    static int roads(NightCarts x, String text) {
        return x.roads(text(x, text));
    }

    static int plan(NightCarts x, int k, String text) {
        return x.plan(k, text(x, text));
    }

    static String many(int times, String part, String between) {
        StringBuilder all = new StringBuilder();
        for (int p = 0; p < times; p++) {
            all.append(p == 0 ? "" : between).append(part);
        }
        return all.toString();
    }
}
