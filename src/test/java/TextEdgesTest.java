/** The edges of the tape and of the three texts on it (promises 5 to 8), a test for each sentence that names one. */
public final class TextEdgesTest {
    private static final Due DUE = new Due();

    public static void main(String[] args) {
        feedAtMost260();
        feedHighestByteFirst();
        feedAgainBehindReading();
        lawBytes();
        lawHasNotSoMany();
        lawFirstBytesAlone();
        lawEndTooSoon();
        lawNoBlanks();
        lawStrangeSigns();
        lawSixthDigit();
        lawSeventeenthClause();
        lawSeventhOpen();
        lawOpenTillItsTestEnds();
        lawFirstFaultFromTheLeft();
        lawStaysAtAFault();
        lawInPlaceOfTheOneBefore();
        lawNoneIsZero();
        lawFirstClauseThatHolds();
        lawBounds();
        lawWrapsAround();
        lawFromTheLeftOn();
        lawRefusedCondition();
        lawRefusedWorth();
        lawAsksAsMuchAsMatters();
        lawHours();
        lawUntoldFacts();
        roadsBytes();
        roadsHasNotSoMany();
        roadsEndTooSoon();
        roadsNoBlanks();
        roadsLetters();
        roadsDigits();
        roadsZeroMinutes();
        roadsFortyFirstLine();
        roadsWithItself();
        roadsUntold();
        roadsLaterOne();
        roadsStayAtAFault();
        planBytes();
        planHasNotSoMany();
        planEndTooSoon();
        planNoBlanks();
        planLettersAndDigits();
        planSeventeenthStop();
        planStaysAtAFault();
        planOfEachCart();
        DUE.end();
    }

    private static void law(NightCarts x, String text, int want) {
        DUE.is("promise 6: law " + text, Due.law(x, text), want);
    }

    private static void roads(NightCarts x, String text, int want) {
        DUE.is("promise 7: roads " + text, Due.roads(x, text), want);
    }

    private static void plan(NightCarts x, String text, int want) {
        DUE.is("promise 8: plan " + text, Due.plan(x, 0, text), want);
    }

    // promise 5

    private static void feedAtMost260() {
        NightCarts x = Due.city(10);
        DUE.is("promise 5: an empty tape", x.count(6), 0);
        for (int i = 0; i < 10; i++) {
            x.pour(i, i);
        }
        for (int times = 1; times <= 13; times++) {
            DUE.is("promise 5: feed, time " + times, x.feed(0x00000001, 0x00020003, 0x00040005, 0x00060007, 0x00080009),
                    20 * times);
        }
        DUE.is("promise 5: 280 would be more than 260", x.feed(-1, -1, -1, -1, -1), -1);
        DUE.is("promise 5: it has 260 then as before", x.count(6), 260);
        DUE.is("promise 5: the first bytes stay", x.check(10), -1);
    }

    private static void feedHighestByteFirst() {
        NightCarts x = Due.city(10);
        int[] depths = {0x0102, 0x0304 % 1000, 0x0355, 0x0266, 0x0177, 0x0080, 0x00ff, 0x03e7, 0x0001, 0x0000};
        int[] words = new int[5];
        for (int i = 0; i < 10; i++) {
            x.pour(i, depths[i]);
            words[i / 2] = words[i / 2] << 16 | depths[i];
        }
        x.feed(words[0], words[1], words[2], words[3], words[4]);
        DUE.is("promise 5: the highest byte of each int first", x.check(10), -1);
        x.feed(0x80ff7f00, Integer.MIN_VALUE, 0, 0, 0);
        DUE.is("promise 5: a byte is 0 to 255", x.thieves(5, 0x80 + 0xff + 0x7f + 0x80, 1), 1 | 2 | 4 | 16);
    }

    private static void feedAgainBehindReading() {
        NightCarts x = Due.city(1);
        for (int times = 1; times <= 13; times++) {
            x.feed(0, 0, 0, 0, 0);
        }
        DUE.is("promise 5: a full tape is read", x.thieves(1, 0, 0), 2);
        DUE.is("promise 5: it is empty then", x.count(6), 0);
        DUE.is("promise 5: it takes twenty again", x.feed(0x07000000, 0, 0, 0, 0), 20);
        DUE.is("promise 5: they are the first", x.thieves(1, 7, 1), 1);
    }

    // promise 6

    private static void lawBytes() {
        String longest = "w1" + Due.many(116, "+1", "") + "(1=11)";
        NightCarts x = new NightCarts();
        DUE.is("a text of 240 bytes", longest.length(), 240);
        law(x, longest, 1);
        law(x, "w1(1=1)", 1);
        int[] none = {0, -1, 241, 260, Integer.MIN_VALUE, Integer.MAX_VALUE};
        Due.text(x, longest + "(1=1)");
        for (int n : none) {
            DUE.is("promise 6: no such n: law(" + n + ")", x.law(n), -1);
            DUE.is("promise 6: the tape stays", x.count(6), 260);
        }
        DUE.is("promise 6: law(240)", x.law(240), 1);
        DUE.is("promise 6: empty then", x.count(6), 0);
        Due.text(x, "w");
        DUE.is("promise 6: law(1)", x.law(1), -1001);
        DUE.is("promise 6: empty then, behind a fault too", x.count(6), 0);
    }

    private static void lawHasNotSoMany() {
        NightCarts x = new NightCarts();
        DUE.is("promise 6: an empty tape has not one", x.law(1), -1);
        Due.text(x, "w[1+1+1+1+1+1](1=11)");
        DUE.is("promise 6: twenty bytes are not 21", x.law(21), -1);
        DUE.is("promise 6: the tape stays", x.count(6), 20);
        DUE.is("promise 6: twenty are", x.law(20), 1);
        DUE.is("promise 6: none is left", x.law(1), -1);
    }

    private static void lawFirstBytesAlone() {
        NightCarts x = new NightCarts();
        Due.text(x, "w1(1=1);c1(1=1);s1(1=1)");
        DUE.is("promise 6: the first seven of 40", x.law(7), 1);
        DUE.is("promise 6: clauses", x.count(5), 1);
        Due.text(x, "w12345(1=1)6");
        DUE.is("promise 6: five digits, the sixth is beyond n", x.law(6), -1006);
        Due.text(x, "w1(1=1)");
        DUE.is("promise 6: the end is at n", x.law(6), -1006);
    }

    private static void lawEndTooSoon() {
        NightCarts x = new NightCarts();
        String text = "w1+[2*i](!1<2&(3=3|4>[5]))";
        for (int n = 1; n < text.length(); n++) {
            law(x, text.substring(0, n), -1000 - n);
        }
        law(x, text, 1);
        law(x, text + ";", -1000 - text.length() - 1);
    }

    private static void lawNoBlanks() {
        NightCarts x = new NightCarts();
        String text = "w1+[20*i](!1<2&(3=3|4>[5]));c1(1=1)";
        for (int place = 0; place <= text.length(); place++) {
            law(x, text.substring(0, place) + " " + text.substring(place), -1000 - place);
        }
        law(x, text, 2);
    }

    /** The signs beside those that can stand there, by their numbers. */
    private static void lawStrangeSigns() {
        NightCarts x = new NightCarts();
        for (char sign : "vxtrbdWCSU0(!;".toCharArray()) {
            law(x, sign + "1(1=1)", -1000);
        }
        for (char sign : "abcefjmopqstuvwxyzIHLDGRNK(!&|<>=)];:/.,-+*%".toCharArray()) {
            law(x, "w" + sign + "(1=1)", -1001);
        }
        for (char sign : "ihldgrnk059".toCharArray()) {
            law(x, "w" + sign + "(1=1)", 1);
        }
        for (char sign : ":,.|& \n".toCharArray()) {
            law(x, "w1(1=1)" + sign + "c1(1=1)", -1007);
        }
        for (int sign : new int[] {0, 127, 128, 'w' + 128, 255}) {
            law(x, (char) sign + "1(1=1)", -1000);
            law(x, "w1(1=1)" + (char) sign, -1007);
        }
        law(x, "w1(1~1)", -1004);
        law(x, "w1(1:1)", -1004);
        law(x, "w1(1?1)", -1004);
    }

    private static void lawSixthDigit() {
        NightCarts x = new NightCarts();
        law(x, "w99999(1=1)", 1);
        law(x, "w999999(1=1)", -2006);
        law(x, "w000000(1=1)", -2006);
        law(x, "w00000(1=1)", 1);
        law(x, "w1(12345=12345)", 1);
        law(x, "w1(123456=1)", -2008);
        law(x, "w1(1=123456)", -2010);
        law(x, "w1+[1*123456](1=1)", -2011);
        law(x, "w1(1=1);c123456(1=1)", -2014);
        law(x, "w12345x(1=1)", -1006);
    }

    private static void lawSeventeenthClause() {
        NightCarts x = new NightCarts();
        String sixteen = Due.many(16, "w5(i=0)", ";");
        law(x, sixteen, 16);
        DUE.is("promise 6: sixteen are all there", x.count(5), 16);
        for (String letter : "w c s u".split(" ")) {
            law(x, sixteen + ";" + letter, -4128);
            law(x, sixteen + ";" + letter + "5(i=0)", -4128);
        }
        law(x, sixteen + ";i5(i=0)", -1128);
        law(x, sixteen + ";;", -1128);
        law(x, sixteen + ";", -1128);
        law(x, sixteen + "w", -1127);
        DUE.is("promise 6: the one before stays", x.count(5), 16);
    }

    private static void lawSeventhOpen() {
        NightCarts x = new NightCarts();
        law(x, "w1+[[[[[[1]]]]]](1=1)", 1);
        law(x, "w1+[[[[[[[1]]]]]]](1=1)", -5009);
        law(x, "w1((((((1=1))))))", 1);
        law(x, "w1(((((((1=1)))))))", -5008);
        law(x, "w1([[[[[1]]]]]=1)", 1);
        law(x, "w1([[[[[[1]]]]]]=1)", -5008);
        law(x, "w1(1=[[[[[1]]]]])", 1);
        law(x, "w1(1=[[[[[[1]]]]]])", -5010);
        law(x, "w1(!!!!!1=1)", 1);
        law(x, "w1(!!!!!!1=1)", -5008);
        law(x, "w1(!(!([1]=1)))", 1);
        law(x, "w1(!(!([[1]]=1)))", -5008);
        law(x, "w1(!(!(!(1=1))))", -5008);
        law(x, "w1(!(!(!1=[1])))", -5010);
        law(x, "w[[[[[[1]]]]]]([[[[[1]]]]]=1)", 1);
        law(x, "w1((((((", -1008);
        law(x, "w1(((((((", -5008);
    }

    private static void lawOpenTillItsTestEnds() {
        NightCarts x = new NightCarts();
        law(x, "w1(!!!!!1=1&!!!!!1=1|!!!!!1=1)", 1);
        law(x, "w1(!!!!!1=1&!!!!!!1=1)", -5017);
        law(x, "w1(!!!!(1=1)&[[[[[1]]]]]=1)", 1);
        law(x, "w1(!!!!(1=1&!1=1))", -5012);
        law(x, "w1(!!!(1=1&!1=1))", 1);
        law(x, "w1(!!!(1=1)|!!!(1=1&!1=1))", 1);
        law(x, "w1(!1=[[[[1]]]])", 1);
        law(x, "w1(!1=[[[[[1]]]]])", -5010);
        law(x, "w1([[[[[1]]]]]=[[[[[1]]]]])", 1);
        law(x, "w1(1=1);w1(((((1=1)))));w[[[[[[1]]]]]](1=1)", 3);
    }

    private static void lawFirstFaultFromTheLeft() {
        NightCarts x = new NightCarts();
        law(x, "w123456(((((((1=1)))))))", -2006);
        law(x, "w1(((((((123456=1)))))))", -5008);
        law(x, "w1)(((((((123456=1)))))))", -1002);
        law(x, "w1(x", -1003);
        law(x, "w1((((((x", -1008);
    }

    private static void lawStaysAtAFault() {
        NightCarts x = Due.city(1);
        x.pour(0, 100);
        law(x, "w7(1=1)", 1);
        for (String fault : "w9(1=1);x|w123456(1=1)|w9(((((((1=1)))))))|w9(1=1);".split("\\|")) {
            DUE.is("promise 6: a fault: " + fault, Due.law(x, fault) <= -1000, true);
            DUE.is("promise 6: the one before stays", x.tried(2), 70);
            DUE.is("promise 6: its clauses, too", x.count(5), 1);
        }
        law(x, Due.many(17, "w9(i=0)", ";"), -4128);
        DUE.is("promise 6: the one before stays", x.tried(2), 70);
    }

    private static void lawInPlaceOfTheOneBefore() {
        NightCarts x = Due.city(1);
        x.pour(0, 100);
        law(x, "w7(1=2);w8(1=1);c1(1=1)", 3);
        DUE.is("wasted by the first law", x.tried(2), 80);
        law(x, "c2(1=1)", 1);
        DUE.is("promise 6: nothing of the one before is left", x.tried(2), 0);
        DUE.is("promise 6: in place of the one before", x.tried(3), 20);
        DUE.is("promise 6: clauses", x.count(5), 1);
    }

    private static void lawNoneIsZero() {
        NightCarts x = Due.city(1);
        x.cart(0, 99);
        x.pour(0, 1);
        Due.plan(x, 0, "+9,a9,+9");
        int[] wants = {100, 10, 0, 0};
        for (String text : "-|w9(1=2);c9(1=2);s9(1=2);u9(1=2)".split("\\|")) {
            if (!text.equals("-")) {
                law(x, text, 4);
            }
            for (int what = 0; what < 4; what++) {
                DUE.is("no clause holds, tried(" + what + ") by " + text, x.tried(what), wants[what]);
            }
            DUE.is("no clause of u holds by " + text, x.tried(40), 0);
            DUE.is("no clause of s holds by " + text, x.sleepful(0, 1, 0), 10);
        }
    }

    private static void lawFirstClauseThatHolds() {
        NightCarts x = Due.city(1);
        x.pour(0, 900);
        law(x, "c3(1=1);w1(1=2);w2(r>4);w3(r>3);w4(1=1);w5(1=1)", 6);
        DUE.is("hours 0 to 3 by 4, hour 4 by 3, others by 2", x.tried(2), 4 * 4 + 3 + 5 * 2);
        law(x, Due.many(15, "w9(1=2)", ";") + ";w1(1=1)", 16);
        DUE.is("the sixteenth of sixteen", x.tried(2), 10);
        law(x, Due.many(15, "w9/0(1=2)", ";") + ";w1(1=1)", 16);
        DUE.is("the sixteenth of sixteen, the others being refused", x.tried(2), 10);
    }

    /** What each letter comes to at its bounds and beyond them. */
    private static void lawBounds() {
        NightCarts x = new NightCarts();
        x.street(0, 10, 1, 0);
        x.cart(0, 99);
        law(x, "w998*l(1=1)", 1);
        DUE.is("w 998", x.out(1, 0), 9980);
        law(x, "w999*l(1=1)", 1);
        DUE.is("w 999", x.out(1, 0), 9990);
        law(x, "w1000*l(1=1)", 1);
        DUE.is("w 1000 is 999", x.out(1, 0), 9990);
        law(x, "w0-l(1=1)", 1);
        DUE.is("w -1 is 0", x.out(1, 0), 0);
        law(x, "s998(1=1)", 1);
        DUE.is("s 998", x.enough(0), 998);
        law(x, "s999(1=1)", 1);
        DUE.is("s 999", x.enough(0), 999);
        law(x, "s1000(1=1)", 1);
        DUE.is("s 1000 is 999", x.enough(0), 999);
        law(x, "s0-1(1=1)", 1);
        DUE.is("s -1 is 0, yet above 0", x.enough(0), 1);
        x.pour(0, 999);
        law(x, "c99999(1=1)", 1);
        DUE.is("c 99999 carries off all", x.tried(3), 999);
        law(x, "c0-1(r=0)", 1);
        DUE.is("c -1 is 0", x.tried(3), 0);
        law(x, "w0-1(r=0)", 1);
        DUE.is("w -1 wastes none", x.tried(2), 0);
        Due.plan(x, 0, "+1,+1");
        int[] worths = {8, 9, 10, 99999};
        for (int worth : worths) {
            law(x, "u" + worth + "(1=1)", 1);
            DUE.is("u " + worth, x.tried(40), Math.min(9, worth));
        }
        law(x, "u0-1(1=1)", 1);
        DUE.is("u -1 is 0", x.tried(40), 0);
    }

    private static void holds(String condition, boolean want) {
        NightCarts x = new NightCarts();
        x.street(0, 7, 3, 2);
        law(x, "s50(" + condition + ")", 1);
        DUE.is("holds: " + condition, x.sleepful(300, 1, 1), want ? 50 : 1);
    }

    /** 46340 times itself and 88047 are the greatest number of 32 bits. */
    private static void lawWrapsAround() {
        holds("46340*46340+88047>0", true);
        holds("46340*46340+88048<0", true);
        holds("46340*46340+88048+46340*46340+88048=0", true);
        holds("46341*46341<0", true);
        holds("0-46340*46340-88048<0", true);
        holds("0-46340*46340-88049>0", true);
        holds("[46340*46340+88048]/[0-1]<0", true);
        holds("[46340*46340+88048]%[0-1]=0", true);
        holds("65536*65536=0", true);
        holds("99999*99999-14098*99999=79507", true);
        holds("46340*46340+88047>46340*46340+88048", true);
    }

    private static void lawFromTheLeftOn() {
        holds("9-3-2=4", true);
        holds("64/8/2=4", true);
        holds("7%4*2=6", true);
        holds("2*7%4=2", true);
        holds("7/2*2=6", true);
        holds("2+3*4=14", true);
        holds("[2+3]*4=20", true);
        holds("[0-7]/2=0-3", true);
        holds("[0-7]%2=0-1", true);
        holds("7%[0-2]=1", true);
        holds("1<1", false);
        holds("1>1", false);
        holds("1=1", true);
        for (String test : "1=1 1<2 2>1 (1=1) !1=2 (1=2|1=1) (1=1&2=2)".split(" ")) {
            holds(test, true);
            holds("!" + test, false);
            holds("!!" + test, true);
            holds("!(" + test + ")", false);
        }
        holds("!1=1&1=2", false);
        holds("!(1=1&1=2)", true);
        holds("1=2&1=2|1=1", true);
        holds("1=1|1=1&1=2", true);
        holds("!!!1=2", true);
    }

    private static void lawRefusedCondition() {
        for (String zero : "0 k [3-l] [d*5] n%5".split(" ")) {
            holds("1/" + zero + "=0", false);
            holds("!1/" + zero + "=0", false);
            holds("1%" + zero + "=0", false);
            holds("!(1%" + zero + "<1)", false);
            holds("0/" + zero + "=0|1=1", false);
            holds("1=2|!0/" + zero + "=0|1=1", false);
        }
        NightCarts x = Due.city(1);
        law(x, "s5(1/0=0);s9(1=1)", 2);
        DUE.is("the next clause is asked", x.sleepful(300, 1, 1), 9);
        law(x, "s9(1/r=1)", 1);
        x.pour(0, 3);
        DUE.is("refused in hour 0 alone, met in hour 1", x.tried(0), 90);
    }

    private static void lawRefusedWorth() {
        NightCarts x = new NightCarts();
        x.street(0, 10, 1, 0);
        x.cart(0, 99);
        x.pour(0, 900);
        for (String worth : "9/0 9%0 9+1/0 [9/0]+9 9*[1%[3-3]] 0/0".split(" ")) {
            law(x, "w" + worth + "(1=1);w9(1=1)", 2);
            DUE.is("w is 0 by " + worth, x.tried(2), 0);
            law(x, "c" + worth + "(1=1);c9(1=1)", 2);
            DUE.is("c is 0 by " + worth, x.tried(3), 0);
            law(x, "s" + worth + "(1=1);s999(1=1)", 2);
            DUE.is("s is 0 by " + worth, x.tried(0), 100);
            law(x, "u" + worth + "(1=1);u9(1=1)", 2);
            Due.plan(x, 0, "+9,+9");
            DUE.is("u is 0 by " + worth, x.tried(40), 0);
        }
        law(x, "w9/r(1=1)", 1);
        DUE.is("refused in hour 0 alone", x.tried(2), 9 + 4 + 3 + 2 + 1 + 1 + 1 + 1 + 1);
    }

    private static void lawAsksAsMuchAsMatters() {
        holds("1=1|1/0=1", true);
        holds("1=1|1=2|1/0=1", true);
        holds("1=2|1=1|1/0=1", true);
        holds("1/0=1|1=1", false);
        holds("!(1=2&1/0=1)", true);
        holds("!(1=1&1/0=1)", false);
        holds("1=2&1/0=1|1=1", true);
        holds("1=2&1=1&1/0=1|1=1", true);
        holds("(1=1|1/0=1)&1=1", true);
        holds("(1=1|1/0=1)&1/0=1", false);
        holds("1=1&(1=1|1/0=1)", true);
        holds("!(1=1|1/0=1)|1=1", true);
        holds("1=1&1=1|1/0=1", true);
    }

    private static void lawHours() {
        NightCarts x = Due.city(1);
        x.pour(0, 900);
        law(x, "w1(r=0)", 1);
        DUE.is("there is an hour 0", x.tried(2), 1);
        law(x, "w1(r=9)", 1);
        DUE.is("there is an hour 9", x.tried(2), 1);
        law(x, "w1(r>9|r<0)", 1);
        DUE.is("there are no others", x.tried(2), 0);
        int[] minutes = {1, 59, 60, 119, 120, 539, 540, 590};
        for (int minute : minutes) {
            for (int hour = 0; hour < 10; hour++) {
                DUE.is("u in minute " + minute + ", of hour " + hour, uInMinute(minute, hour),
                        hour == minute / 60 ? 9 : 0);
            }
        }
    }

    /** The minutes for a yard in a street so far from the pit, by a u that is 9 there in that hour alone. */
    private static int uInMinute(int minute, int hour) {
        NightCarts x = Due.city(8);
        x.cart(0, 99);
        StringBuilder roads = new StringBuilder();
        int far = 0;
        int last = 0;
        for (int i = 0; i < 7 && far < minute; i++) {
            int part = Math.min(99, minute - far);
            roads.append(i == 0 ? "" : ";").append((char) ('a' + i)).append((char) ('b' + i)).append(part);
            far += part;
            last = i + 1;
        }
        Due.roads(x, roads.toString());
        Due.law(x, "u9(i=" + last + "&r=" + hour + ")");
        char letter = (char) ('a' + last);
        Due.plan(x, 0, "+1," + letter + "1," + letter + "0");
        return x.tried(40) - minute;
    }

    private static void lawUntoldFacts() {
        NightCarts x = Due.city(2);
        x.cart(3, 9);
        x.pour(1, 100);
        law(x, "w1(k=0);c1(k=0);s0(k=0);w50(1=1);c50(1=1);s999(1=1)", 6);
        DUE.is("k is 0 in w", x.tried(2), 10);
        DUE.is("k is 0 in c", x.tried(3), 10);
        DUE.is("k is 0 in s", x.tried(0), 200);
        law(x, "u5(k=3)", 1);
        Due.plan(x, 3, "+1,+0");
        DUE.is("k is the cart in u", x.tried(43), 5);
        law(x, "w1(k=0);u5(k=3)", 2);
        DUE.is("k is 0 in w behind a cart's u", x.tried(2), 10);
    }

    // promise 7

    private static void roadsBytes() {
        NightCarts x = Due.city(3);
        String longest = Due.many(40, "ab99", ";");
        DUE.is("the longest text without a fault", longest.length(), 199);
        roads(x, longest, 40);
        int[] none = {0, -1, 201, 220, 260, Integer.MIN_VALUE, Integer.MAX_VALUE};
        Due.text(x, longest + ";" + longest.substring(0, 60));
        for (int n : none) {
            DUE.is("promise 7: no such n: roads(" + n + ")", x.roads(n), -1);
            DUE.is("promise 7: the tape stays", x.count(6), 260);
        }
        DUE.is("promise 7: roads(200)", x.roads(200), -1200);
        DUE.is("promise 7: empty then", x.count(6), 0);
        Due.text(x, "a");
        DUE.is("promise 7: roads(1)", x.roads(1), -1001);
    }

    private static void roadsHasNotSoMany() {
        NightCarts x = Due.city(3);
        DUE.is("promise 7: an empty tape has not one", x.roads(1), -1);
        Due.text(x, "ab11;bc12;ab13;bc142");
        DUE.is("promise 7: twenty bytes are not 21", x.roads(21), -1);
        DUE.is("promise 7: the tape stays", x.count(6), 20);
        DUE.is("promise 7: nineteen are there", x.roads(19), 4);
        DUE.is("promise 7: by the first n alone", x.way(1, 2), 14);
        DUE.is("promise 7: none is left", x.roads(1), -1);
    }

    private static void roadsEndTooSoon() {
        NightCarts x = Due.city(4);
        String text = "ab12;cd3";
        int[] wants = {-1001, -1002, 1, 1, -1005, -1006, -1007, 2};
        for (int n = 1; n <= text.length(); n++) {
            roads(x, text.substring(0, n), wants[n - 1]);
        }
    }

    private static void roadsNoBlanks() {
        NightCarts x = Due.city(4);
        String text = "ab12;cd3";
        for (int place = 0; place <= text.length(); place++) {
            roads(x, text.substring(0, place) + " " + text.substring(place), -1000 - place);
        }
        for (char sign : ":,.|<\n".toCharArray()) {
            roads(x, "ab1" + sign + "bc1", -1003);
        }
    }

    private static void roadsLetters() {
        NightCarts x = Due.city(14);
        roads(x, "an1", 1);
        roads(x, "na1", 1);
        roads(x, "`n1", -1000);
        roads(x, "on1", -1000);
        roads(x, "n`1", -1001);
        roads(x, "no1", -1001);
        roads(x, "An1", -1000);
        roads(x, "nA1", -1001);
        roads(x, (char) ('a' + 128) + "n1", -1000);
        roads(x, "n" + (char) ('a' + 128) + "1", -1001);
        roads(x, (char) 0 + "n1", -1000);
        roads(x, "1n1", -1000);
        roads(x, ";an1", -1000);
    }

    private static void roadsDigits() {
        NightCarts x = Due.city(2);
        for (int minutes = 1; minutes <= 99; minutes++) {
            roads(x, "ab" + minutes, 1);
            DUE.is("promise 7: so many minutes", x.way(0, 1), minutes);
        }
        roads(x, "ab01", 1);
        DUE.is("promise 7: one minute", x.way(0, 1), 1);
        roads(x, "ab100", -1004);
        roads(x, "ab012", -1004);
        roads(x, "ab/", -1002);
        roads(x, "ab:", -1002);
        roads(x, "ab1/", -1003);
        roads(x, "ab1:", -1003);
        roads(x, "ab-1", -1002);
        roads(x, "ab+1", -1002);
    }

    private static void roadsZeroMinutes() {
        NightCarts x = Due.city(3);
        for (String text : "ab0 ab00 ab0; ab00; ab000 ab001 ab0x ab00x ab0c ab0,".split(" ")) {
            roads(x, text, -3002);
        }
        roads(x, "ab0;bc1", -3002);
        roads(x, "bc1;ab00;bc1", -3006);
        roads(x, "bc11;ab0", -3007);
        roads(x, "ab10", 1);
        roads(x, "ab0" + (char) 0, -3002);
    }

    private static void roadsFortyFirstLine() {
        NightCarts x = Due.city(3);
        String forty = Due.many(40, "ab1", ";");
        roads(x, forty, 40);
        roads(x, forty + ";bc1", -4160);
        roads(x, forty + ";b", -4160);
        roads(x, forty + ";aa1", -4160);
        roads(x, forty + ";dd1", -4160);
        roads(x, forty + ";o", -1160);
        roads(x, forty + ";1", -1160);
        roads(x, forty + ";;", -1160);
        roads(x, forty + ";", -1160);
        roads(x, forty + "b", -1159);
        roads(x, Due.many(39, "ab1", ";") + ";bc2", 40);
        DUE.is("promise 7: the fortieth counts", x.way(1, 2), 2);
    }

    private static void roadsWithItself() {
        NightCarts x = Due.city(3);
        roads(x, "aa1", -6001);
        roads(x, "aa", -6001);
        roads(x, "aa0", -6001);
        roads(x, "ab1;cc1", -6005);
        roads(x, "dd1", -7000);
        roads(x, "ab1;dd1", -7004);
    }

    private static void roadsUntold() {
        NightCarts x = new NightCarts();
        roads(x, "ab1", -7000);
        x.street(0, 1, 1, 1);
        roads(x, "ab1", -7001);
        roads(x, "ba1", -7000);
        roads(x, "ab", -7001);
        roads(x, "aa1", -6001);
        x.street(1, 1, 1, 1);
        roads(x, "ab1;ca1", -7004);
        roads(x, "ab1;ac1", -7005);
        roads(x, "ab1", 1);
        x.street(13, 1, 1, 1);
        roads(x, "an1", 1);
        roads(x, "mn1", -7000);
        roads(x, "ab0;mn1", -3002);
    }

    private static void roadsLaterOne() {
        NightCarts x = Due.city(3);
        roads(x, "ab5;bc1;ba9;ab7", 4);
        DUE.is("promise 7: the later one", x.way(0, 1), 7);
        DUE.is("promise 7: both ways", x.way(1, 0), 7);
        DUE.is("promise 29: two roads", x.count(7), 2);
        roads(x, "ab1;ab99", 2);
        DUE.is("promise 7: the later one, though it is longer", x.way(0, 1), 99);
        DUE.is("promise 7: in place of all before", x.way(1, 2), -2);
    }

    private static void roadsStayAtAFault() {
        NightCarts x = Due.city(4);
        roads(x, "ab5;bc6", 2);
        String[] faults = {"ac1;", "ac0", "ac1;dd1", "ac1;en1", "ac1 ", Due.many(41, "ac1", ";")};
        for (String fault : faults) {
            DUE.is("promise 7: a fault: " + fault, Due.roads(x, fault) <= -1000, true);
            DUE.is("promise 7: the ones before stay", x.way(0, 2), 11);
            DUE.is("promise 7: as many", x.count(7), 2);
            DUE.is("promise 7: empty then", x.count(6), 0);
        }
    }

    // promise 8

    private static void planBytes() {
        NightCarts x = new NightCarts();
        String longest = Due.many(16, "a12", ",");
        DUE.is("the longest text without a fault", longest.length(), 63);
        plan(x, longest, 16);
        int[] none = {0, -1, 81, 100, Integer.MIN_VALUE, Integer.MAX_VALUE};
        Due.text(x, longest + "," + longest.substring(0, 36));
        for (int n : none) {
            DUE.is("promise 8: no such n: plan(0, " + n + ")", x.plan(0, n), -1);
            DUE.is("promise 8: the tape stays", x.count(6), 100);
        }
        DUE.is("promise 8: plan(0, 80)", x.plan(0, 80), -4064);
        DUE.is("promise 8: empty then", x.count(6), 0);
        Due.text(x, "a");
        DUE.is("promise 8: plan(0, 1)", x.plan(0, 1), -1001);
    }

    private static void planHasNotSoMany() {
        NightCarts x = new NightCarts();
        DUE.is("promise 8: an empty tape has not one", x.plan(0, 1), -1);
        Due.text(x, "a11,b12,+13,d14,e156");
        DUE.is("promise 8: twenty bytes are not 21", x.plan(0, 21), -1);
        DUE.is("promise 8: the tape stays", x.count(6), 20);
        DUE.is("promise 8: nineteen are there", x.plan(0, 19), 5);
        DUE.is("promise 8: none is left", x.plan(0, 1), -1);
    }

    private static void planEndTooSoon() {
        NightCarts x = new NightCarts();
        String text = "a12,+3";
        int[] wants = {-1001, 1, 1, -1004, -1005, 2};
        for (int n = 1; n <= text.length(); n++) {
            plan(x, text.substring(0, n), wants[n - 1]);
        }
    }

    private static void planNoBlanks() {
        NightCarts x = new NightCarts();
        String text = "a12,+3,n45";
        for (int place = 0; place <= text.length(); place++) {
            plan(x, text.substring(0, place) + " " + text.substring(place), -1000 - place);
        }
        for (char sign : ";.+-b".toCharArray()) {
            plan(x, "a1" + sign + "b1", -1002);
        }
    }

    private static void planLettersAndDigits() {
        NightCarts x = new NightCarts();
        plan(x, "a0", 1);
        plan(x, "n99", 1);
        plan(x, "+0", 1);
        plan(x, "+00,a00", 2);
        for (char sign : "`oAN*-,;0".toCharArray()) {
            plan(x, sign + "1", -1000);
        }
        plan(x, (char) ('a' + 128) + "1", -1000);
        plan(x, "a/", -1001);
        plan(x, "a:", -1001);
        plan(x, "a1/", -1002);
        plan(x, "a1:", -1002);
        plan(x, "a123", -1003);
        plan(x, "+100", -1003);
        plan(x, "+000", -1003);
        plan(x, "aa1", -1001);
        plan(x, "++1", -1001);
        plan(x, "+a1", -1001);
    }

    private static void planSeventeenthStop() {
        NightCarts x = new NightCarts();
        String sixteen = Due.many(16, "a1", ",");
        plan(x, sixteen, 16);
        plan(x, sixteen + ",b1", -4048);
        plan(x, sixteen + ",n", -4048);
        plan(x, sixteen + ",+", -4048);
        plan(x, sixteen + ",o", -1048);
        plan(x, sixteen + ",1", -1048);
        plan(x, sixteen + ",,", -1048);
        plan(x, sixteen + ",", -1048);
        plan(x, sixteen + "b", -1047);
        plan(x, Due.many(15, "+1", ",") + ",n9", 16);
        DUE.is("promise 29: sixteen stops", x.count(100), 16);
    }

    private static void planStaysAtAFault() {
        NightCarts x = Due.city(2);
        x.cart(0, 50);
        plan(x, "+9,a9", 2);
        String[] faults = {"+5,", "+5,o", "+555", "+5,a", Due.many(17, "+5", ",")};
        for (String fault : faults) {
            DUE.is("promise 8: a fault: " + fault, Due.plan(x, 0, fault) <= -1000, true);
            DUE.is("promise 8: the one before stays", x.tried(10), 9);
            DUE.is("promise 8: its stops, too", x.count(100), 2);
            DUE.is("promise 8: empty then", x.count(6), 0);
        }
        plan(x, "+3", 1);
        DUE.is("promise 8: in place of the one before", x.tried(30), 3);
        DUE.is("promise 8: nothing of it is left", x.tried(10), 0);
    }

    private static void planOfEachCart() {
        NightCarts x = Due.city(1);
        for (int k = 0; k < 5; k++) {
            DUE.is("promise 8: none at first", x.count(100 + k), 0);
            DUE.is("promise 8: of cart " + k + ", not told", Due.plan(x, k, "+" + (k + 1)), 1);
        }
        for (int k = 0; k < 5; k++) {
            x.cart(k, 50);
        }
        for (int k = 0; k < 5; k++) {
            DUE.is("promise 8: each has its own", x.tried(30 + k), k + 1);
        }
        for (int k : new int[] {-1, 5, Integer.MIN_VALUE, Integer.MAX_VALUE}) {
            Due.text(x, "a1");
            DUE.is("promise 8: no such cart " + k, x.plan(k, 2), -1);
        }
        DUE.is("promise 8: the tape stays", x.count(6), 80);
    }
}
