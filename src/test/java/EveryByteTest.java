/** Texts in which each place holds each of the 256 bytes in turn: the class and Plain must find the same faults. */
public final class EveryByteTest {
    private static final Due DUE = new Due();
    private static final int HALF = 128;
    private static final String[] LAWS = {"w1(1=1)", "w12345(1=1)", "c[i+2](!1<d)", "s1(1=1);u2(2>1)",
        "w1(((((k=[n])))))", "u1(!(!1=1&2=2)|3=3)", "s[[[[[[9]]]]]](1=1)", "w1(12345>9)"};
    private static final String[] ROADS = {"ab1", "ab12;bc3", "ab09;ef10", "ba99;cd01;d"};
    private static final String[] PLANS = {"a1", "+12,b3", "n0,a99,+1", "b1,c2,+"};

    public static void main(String[] args) {
        for (String text : LAWS) {
            everyPlace('l', "", text);
        }
        for (String text : ROADS) {
            everyPlace('r', "", text);
        }
        for (String text : PLANS) {
            everyPlace('p', "", text);
        }
        everyPlace('l', Due.many(15, "w5(i=0)", ";") + ";", "w5(i=0);c");
        everyPlace('l', Due.many(16, "w5(i=0)", ";"), ";w5");
        everyPlace('r', Due.many(39, "ab1", ";") + ";", "ab1;b");
        everyPlace('p', Due.many(15, "a1", ",") + ",", "a1,+");
        DUE.end();
    }

    private static void everyPlace(char kind, String ahead, String text) {
        for (int place = 0; place < text.length(); place++) {
            everyByte(kind, ahead, text, place, 0);
            everyByte(kind, ahead, text, place, HALF);
        }
    }

    /** Half of the bytes: with a long text ahead an object answers no more than its 512 calls. */
    private static void everyByte(char kind, String ahead, String text, int place, int from) {
        NightCarts x = new NightCarts();
        Plain y = new Plain();
        for (int sign = from; sign < from + HALF; sign++) {
            if (sign % 16 == 0) {
                x = new NightCarts();
                y = new Plain();
                tell(x, y);
            }
            String spoilt = ahead + text.substring(0, place) + (char) sign + text.substring(place + 1);
            int n = feed(x, y, spoilt);
            String name = kind + " " + spoilt + " by byte " + sign + " at " + place;
            DUE.is(name, read(x, kind, n), read(y, kind, n));
            DUE.is(name + ": what stands then", standsIn(x), standsIn(y));
        }
    }

    /** Streets 0 to 5 but for 4. */
    private static void tell(NightCarts x, Plain y) {
        for (int i = 0; i < 6; i++) {
            if (i != 4) {
                x.street(i, i, i, i);
                y.street(i, i, i, i);
            }
        }
    }

    private static int feed(NightCarts x, Plain y, String text) {
        int[] bytes = text.chars().toArray();
        for (int from = 0; from < bytes.length; from += 20) {
            int[] words = new int[5];
            for (int p = 0; p < 5; p++) {
                words[p] = Due.word(bytes, from + 4 * p);
            }
            x.feed(words[0], words[1], words[2], words[3], words[4]);
            y.feed(words[0], words[1], words[2], words[3], words[4]);
        }
        return bytes.length;
    }

    private static int read(NightCarts x, char kind, int n) {
        return kind == 'l' ? x.law(n) : kind == 'r' ? x.roads(n) : x.plan(0, n);
    }

    private static int read(Plain y, char kind, int n) {
        return kind == 'l' ? y.law(n) : kind == 'r' ? y.roads(n) : y.plan(0, n);
    }

    private static int standsIn(NightCarts x) {
        return x.count(5) * 10000 + x.count(7) * 100 + x.count(100);
    }

    private static int standsIn(Plain y) {
        return y.count(5) * 10000 + y.count(7) * 100 + y.count(100);
    }
}
