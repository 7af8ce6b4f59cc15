/** Each promise by hand: ordinary calls, the edges that the document names, wrong ones. */
public final class PromisesTest {
    private static final Due DUE = new Due();

    public static void main(String[] args) {
        newObject();
        street();
        cart();
        pour();
        feed();
        lawFaults();
        lawLimits();
        lawWorths();
        lawBounds();
        lawRefused();
        roadsFaults();
        roadsStay();
        planFaults();
        planCalls();
        nights();
        tried();
        triedCarts();
        triedEdges();
        triedFacts();
        way();
        round();
        share();
        sleepful();
        pitAt();
        cut();
        strike();
        enough();
        oneStop();
        out();
        jobs();
        load();
        brides();
        thieves();
        latest();
        keepAndUndo();
        check();
        count();
        lastNight();
        DUE.end();
    }

    private static void newObject() {
        NightCarts x = new NightCarts();
        DUE.is("NONE", NightCarts.NONE, -1);
        for (int what = 0; what < 8; what++) {
            DUE.is("new: count(" + what + ")", x.count(what), 0);
        }
        DUE.is("new: count(100)", x.count(100), 0);
        DUE.is("new: count(90)", x.count(90), -1);
        DUE.is("new: count(10)", x.count(10), -1);
        DUE.is("new: undo()", x.undo(), false);
        DUE.is("new: keep()", x.keep(), 0);
        DUE.is("new: way(0, 0)", x.way(0, 0), -1);
        DUE.is("new: pitAt(0)", x.pitAt(0), -2);
        DUE.is("new: cut(0)", x.cut(0), 0);
        DUE.is("new: cut(1)", x.cut(1), -2);
        DUE.is("new: tried(0)", x.tried(0), 0);
        DUE.is("new: nights(2)", x.nights(2), 0);
        DUE.is("new: count(0)", x.count(0), 2);
    }

    private static void street() {
        NightCarts x = new NightCarts();
        DUE.is("street(-1)", x.street(-1, 0, 0, 0), false);
        DUE.is("street(14)", x.street(14, 0, 0, 0), false);
        DUE.is("street houses -1", x.street(0, -1, 0, 0), false);
        DUE.is("street houses 100", x.street(0, 100, 0, 0), false);
        DUE.is("street lamps -1", x.street(0, 0, -1, 0), false);
        DUE.is("street lamps 10", x.street(0, 0, 10, 0), false);
        DUE.is("street stars -1", x.street(0, 0, 0, -1), false);
        DUE.is("street stars 100", x.street(0, 0, 0, 100), false);
        DUE.is("no street is told", x.count(3), 0);
        DUE.is("street(13)", x.street(13, 99, 9, 99), true);
        DUE.is("street(0)", x.street(0, 0, 0, 0), true);
        DUE.is("told", x.count(3), 1 << 13 | 1);
        DUE.is("pour(13, 7)", x.pour(13, 7), 7);
        DUE.is("roads", Due.roads(x, "an9"), 1);
        DUE.is("street(13) anew", x.street(13, 1, 2, 3), true);
        DUE.is("refused", x.street(13, 1, 2, 100), false);
        DUE.is("houses", x.count(23), 1);
        DUE.is("lamps", x.count(43), 2);
        DUE.is("stars", x.count(63), 3);
        DUE.is("depth stays", x.count(83), 7);
        DUE.is("roads stay", x.way(0, 13), 9);
    }

    private static void cart() {
        NightCarts x = new NightCarts();
        DUE.is("cart(-1)", x.cart(-1, 5), false);
        DUE.is("cart(5)", x.cart(5, 5), false);
        DUE.is("cart room 0", x.cart(0, 0), false);
        DUE.is("cart room 100", x.cart(0, 100), false);
        DUE.is("no cart is told", x.count(4), 0);
        DUE.is("plan of an untold cart", Due.plan(x, 4, "a1,+2"), 2);
        DUE.is("cart(4, 99)", x.cart(4, 99), true);
        DUE.is("cart(0, 1)", x.cart(0, 1), true);
        DUE.is("room of 0", x.count(90), 1);
        DUE.is("told carts", x.count(4), 17);
        DUE.is("cart(4, 7)", x.cart(4, 7), true);
        DUE.is("refused", x.cart(4, 100), false);
        DUE.is("room", x.count(94), 7);
        DUE.is("its plan stays", x.count(104), 2);
    }

    private static void pour() {
        NightCarts x = Due.city(2);
        DUE.is("pour(2)", x.pour(2, 1), -1);
        DUE.is("pour(-1)", x.pour(-1, 1), -1);
        DUE.is("pour(14)", x.pour(14, 1), -1);
        DUE.is("pour -1", x.pour(0, -1), -1);
        DUE.is("pour 1000", x.pour(0, 1000), -1);
        DUE.is("pour 0", x.pour(0, 0), 0);
        DUE.is("pour 600", x.pour(1, 600), 600);
        DUE.is("pour 399", x.pour(1, 399), 999);
        DUE.is("pour 5 more", x.pour(1, 5), 999);
        DUE.is("pour 999", x.pour(0, 999), 999);
        DUE.is("depth", x.count(71), 999);
    }

    private static void feed() {
        NightCarts x = Due.city(1);
        for (int times = 1; times <= 13; times++) {
            DUE.is("feed", x.feed(0, 0, 0, 0, 0), 20 * times);
        }
        DUE.is("feed beyond 260", x.feed(1, 2, 3, 4, 5), -1);
        DUE.is("bytes", x.count(6), 260);
        NightCarts y = Due.city(2);
        y.pour(0, 0x0102 % 1000);
        y.pour(1, 0x0304 % 1000);
        y.feed(0x01020304, 0, 0, 0, 0);
        DUE.is("the highest byte first", y.check(2), -1);
        y.feed(0xff800000, 0, 0, 0, 0);
        DUE.is("bytes above 127", y.thieves(2, 255 + 128, 0), 1);
        y.feed(0, 0x00000900, 0, 0, 0);
        y.feed(0, 0, 0, 0, 0);
        DUE.is("two feeds", y.count(6), 40);
        DUE.is("the place of a byte", y.thieves(8, 9, 1), 64);
    }

    private static void law(NightCarts x, String text, int want) {
        DUE.is("law " + text, Due.law(x, text), want);
    }

    private static void lawFaults() {
        NightCarts x = new NightCarts();
        law(x, "w1(1=1);c2(2<3);s3(3>2);u4(!1=2)", 4);
        law(x, "W1(1=1)", -1000);
        law(x, "d1(1=1)", -1000);
        law(x, " w1(1=1)", -1000);
        law(x, "w 1(1=1)", -1001);
        law(x, "w", -1001);
        law(x, "w1", -1002);
        law(x, "w1)", -1002);
        law(x, "w1]", -1002);
        law(x, "w1<2(1=1)", -1002);
        law(x, "w+1(1=1)", -1001);
        law(x, "w1+(1=1)", -1003);
        law(x, "w1+*2(1=1)", -1003);
        law(x, "w[1(1=1)", -1003);
        law(x, "w[1](1=1)", 1);
        law(x, "w[](1=1)", -1002);
        law(x, "w(1)(1=1)", -1001);
        law(x, "w1()", -1003);
        law(x, "w1(1)", -1004);
        law(x, "w1(1=)", -1005);
        law(x, "w1(1=1=1)", -1006);
        law(x, "w1(1=1", -1006);
        law(x, "w1(1=1))", -1007);
        law(x, "w1(1=1),", -1007);
        law(x, "w1(1=1);", -1008);
        law(x, "w1(1=1);;", -1008);
        law(x, "w1(1=1);x", -1008);
        law(x, "w1(1=1)w1(1=1)", -1007);
        law(x, "w1(1=1&)", -1007);
        law(x, "w1(1=1|)", -1007);
        law(x, "w1(1=1||2=2)", -1007);
        law(x, "w1(&1=1)", -1003);
        law(x, "w1(!)", -1004);
        law(x, "w1(!1)", -1005);
        law(x, "w1((1=1)=1)", -1008);
        law(x, "w1(1+(1=1)=1)", -1005);
        law(x, "w1((1+1)=1)", -1007);
        law(x, "w1([1+1]=1)", 1);
        law(x, "w1([1+1]]=1)", -1008);
        law(x, "w1([1=1]=1)", -1005);
        law(x, "w1!(1=1)", -1002);
        law(x, "wa(1=1)", -1001);
        law(x, "wi(b=1)", -1003);
        law(x, "wihl(1=1)", -1002);
        law(x, "w12345(1=12345)", 1);
        law(x, "w00001(1=1)", 1);
        law(x, "w123456(1=1)", -2006);
        law(x, "w1(1=100000)", -2010);
        law(x, "w1(1=1" + (char) 0 + ")", -1006);
        law(x, "w1(1=1" + (char) 233 + ")", -1006);
        law(x, "wi+h-l*d/g%r+n+k(i<h&l>d|g=r&(n=k|!!1=1))", 1);
    }

    private static void lawLimits() {
        NightCarts x = new NightCarts();
        law(x, "w[[[[[[1]]]]]](1=1)", 1);
        law(x, "w[[[[[[[1]]]]]]](1=1)", -5007);
        law(x, "w1((((((1=1))))))", 1);
        law(x, "w1(((((((1=1)))))))", -5008);
        law(x, "w1(!!!!!1=1)", 1);
        law(x, "w1(!!!!!!1=1)", -5008);
        law(x, "w1(!!!!!(1=1))", -5008);
        law(x, "w1(!!!!![1]=1)", -5008);
        law(x, "w1(!!!!!1=[1])", -5010);
        law(x, "w1(!!!!1=[1])", 1);
        law(x, "w1(!!!!!1=1&!!!!!1=1)", 1);
        law(x, "w1(!!!!!1=1|[[[[[1]]]]]=1)", 1);
        law(x, "w1((((((1=1)|[[[[1]]]]=1)))))", -5014);
        law(x, "w1((((((1=1)|[1]=1)))))", 1);
        law(x, "w1(!(!(!1=1)&!!!1=1))", 1);
        law(x, "w1(!(!(!1=1)&!!!!1=1))", -5016);
        law(x, "w[[[1]+[[[[2]]]]]](1=1)", 1);
        law(x, "w[[[1]+[[[[[2]]]]]]](1=1)", -5011);
        law(x, "w1(1[=1)", -1004);
        law(x, Due.many(16, "c5(i=0)", ";"), 16);
        law(x, Due.many(17, "c5(i=0)", ";"), -4128);
        law(x, Due.many(16, "c5(i=0)", ";") + ";", -1128);
        law(x, Due.many(16, "c5(i=0)", ";") + ";x", -1128);
        DUE.is("the one before stays", x.count(5), 16);
        String longest = "w" + Due.many(116, "1", "+") + "(1=123)";
        law(x, longest + ";", -1000 - longest.length() - 1);
        law(x, "w1" + Due.many(116, "+1", "") + "(1=1)", 1);
        int n = Due.text(x, "w1" + Due.many(117, "+1", "") + "(1=1)");
        DUE.is("n 241", x.law(n), -1);
        DUE.is("n 0", x.law(0), -1);
        DUE.is("n -1", x.law(-1), -1);
        DUE.is("the tape stays", x.count(6), 260);
        DUE.is("n 240", x.law(240), -1240);
        DUE.is("empty then", x.count(6), 0);
        Due.text(x, "w1(1=1)");
        DUE.is("it has not so many", x.law(21), -1);
        DUE.is("the tape stays", x.count(6), 20);
        DUE.is("the bytes behind don't matter", x.law(7), 1);
        DUE.is("empty then", x.count(6), 0);
    }

    /** The worth of a text for s, by the yards that street 3 (30 houses, 4 lamps, 20 stars) is short of it. */
    private static void worth(String text, int want) {
        NightCarts x = new NightCarts();
        x.street(3, 30, 4, 20);
        x.pour(3, 7);
        int clauses = Due.law(x, text);
        if (clauses < 1) {
            DUE.is("law " + text, clauses, 1);
        }
        DUE.is("worth of " + text, x.sleepful(300, 8, 1), Math.max(0, want - 7));
        DUE.is("who sleeps by " + text, x.sleepful(0, 8, 0), want <= 7 ? 30 : 0);
    }

    private static void lawWorths() {
        worth("s20(1=1)", 20);
        worth("s20+3*4(1=1)", 32);
        worth("s[20+3]*4(1=1)", 92);
        worth("s90-20-30(1=1)", 40);
        worth("s90-[20-30](1=1)", 100);
        worth("s100/7/2(1=1)", 7);
        worth("s100/7%4*9(1=1)", 18);
        worth("s100%30+1(1=1)", 11);
        worth("s100-7%4(1=1)", 97);
        worth("s[0-7]/2+50(1=1)", 47);
        worth("s[0-7]%4+50(1=1)", 47);
        worth("si+100(1=1)", 103);
        worth("sh+100(1=1)", 130);
        worth("sl+100(1=1)", 104);
        worth("sd+100(1=1)", 107);
        worth("sg+100(1=1)", 120);
        worth("sr+100(1=1)", 100);
        worth("sn+100(1=1)", 100);
        worth("sk+100(1=1)", 100);
        worth("s99999*99999/10000/1000(1=1)", 140);
        worth("s50(1=2);s60(1=1);s70(1=1)", 60);
        worth("w50(1=1);c60(1=1);u70(1=1)", 0);
        worth("s50(1<2);s60(1=1)", 50);
        worth("s50(2<2);s60(1=1)", 60);
        worth("s50(2>1);s60(1=1)", 50);
        worth("s50(2>2);s60(1=1)", 60);
        worth("s50(!2>2);s60(1=1)", 50);
        worth("s50(!!2>2);s60(1=1)", 60);
        worth("s50(1=2|1=1);s60(1=1)", 50);
        worth("s50(1=1|1=2);s60(1=1)", 50);
        worth("s50(1=2|1=3|2=2);s60(1=1)", 50);
        worth("s50(1=2|1=3|2=4);s60(1=1)", 60);
        worth("s50(1=1&2=2&3=3);s60(1=1)", 50);
        worth("s50(1=1&2=2&3=4);s60(1=1)", 60);
        worth("s50(1=2&2=2&3=3);s60(1=1)", 60);
        worth("s50(1=1|1=2&1=3);s60(1=1)", 50);
        worth("s50(1=2&1=3|1=1);s60(1=1)", 50);
        worth("s50((1=1|1=2)&1=3);s60(1=1)", 60);
        worth("s50(1=3&(1=1|1=2));s60(1=1)", 60);
        worth("s50(!(1=1&1=2)&1=1);s60(1=1)", 50);
        worth("s50(!1=1|1=1);s60(1=1)", 50);
        worth("s50(!1=2&1=2);s60(1=1)", 60);
        worth("s50(1+1*2=3);s60(1=1)", 50);
        worth("s50(d=7&i=3&h=30&l=4&g=20&n=0&k=0&r=0);s60(1=1)", 50);
    }

    private static void lawBounds() {
        worth("s0-5(1=1)", 0);
        worth("s0(1=1)", 0);
        NightCarts x = Due.city(2);
        Due.law(x, "s1000(1=1)");
        DUE.is("s 999 at most", x.enough(0), 999);
        x.cart(0, 99);
        Due.law(x, "u10(1=1)");
        Due.plan(x, 0, "+3,+3");
        DUE.is("u 9 at most", x.tried(40), 27);
        Due.law(x, "u0-1(1=1)");
        DUE.is("u 0 at least", x.tried(40), 0);
        Due.law(x, "w0-1(1=1);c0-1(1=1)");
        x.pour(0, 50);
        DUE.is("w 0 at least", x.tried(2), 0);
        DUE.is("c 0 at least", x.tried(3), 0);
        Due.law(x, "w2000(1=1)");
        x.pour(0, 999);
        DUE.is("w 999 at most", x.tried(2), 999);
        Due.law(x, "w2000-l*2000(1=1)");
        x.street(0, 1, 1, 1);
        DUE.is("w 999 at most, ten times", x.out(1, 0), -9990);
    }

    private static void lawRefused() {
        worth("s50+1/0(1=1);s60(1=1)", 0);
        worth("s50+1%0(1=1);s60(1=1)", 0);
        worth("s[1/0]+50(1=1);s60(1=1)", 0);
        worth("s50(1/0=0);s60(1=1)", 60);
        worth("s50(1%k=0);s60(1=1)", 60);
        worth("s50(!1/0=1);s60(1=1)", 60);
        worth("s50(!(1/0=1));s60(1=1)", 60);
        worth("s50((1/0=1)|1=1);s60(1=1)", 60);
        worth("s50(1=1|1/0=1);s60(1=1)", 50);
        worth("s50(1=2&1/0=1|1=1);s60(1=1)", 50);
        worth("s50(1=1&1/0=1|1=1);s60(1=1)", 60);
        worth("s50(!(1=1|1/0=1)|1=1);s60(1=1)", 50);
        worth("s50/[d-7](1=1);s60(1=1)", 0);
    }

    private static void roads(NightCarts x, String text, int want) {
        DUE.is("roads " + text, Due.roads(x, text), want);
    }

    private static void roadsFaults() {
        NightCarts x = Due.city(5);
        roads(x, "ab1;cd99;ea05", 3);
        roads(x, "A", -1000);
        roads(x, "`b1", -1000);
        roads(x, "o", -1000);
        roads(x, "n", -7000);
        roads(x, "f", -7000);
        roads(x, "aF1", -1001);
        roads(x, "af1", -7001);
        roads(x, "aa1", -6001);
        roads(x, "ff1", -7000);
        roads(x, "a", -1001);
        roads(x, "a1", -1001);
        roads(x, "ab", -1002);
        roads(x, "ab;", -1002);
        roads(x, "abc", -1002);
        roads(x, "ab0", -3002);
        roads(x, "ab0x", -3002);
        roads(x, "ab0;", -3002);
        roads(x, "ab00", -3002);
        roads(x, "ab000", -3002);
        roads(x, "ab001", -3002);
        roads(x, "ab01", 1);
        roads(x, "ab10", 1);
        roads(x, "ab100", -1004);
        roads(x, "ab1,", -1003);
        roads(x, "ab1 ", -1003);
        roads(x, "ab1;", -1004);
        roads(x, "ab1;;", -1004);
        roads(x, "ab1;cf1", -7005);
        roads(x, "ab1;cc1", -6005);
        roads(x, "ab1;cd0", -3006);
        roads(x, Due.many(40, "ab1", ";"), 40);
        roads(x, Due.many(41, "ab1", ";"), -4160);
        roads(x, Due.many(40, "ab1", ";") + ";f", -4160);
        roads(x, Due.many(40, "ab1", ";") + ";o", -1160);
        roads(x, Due.many(40, "ab1", ";") + ";", -1160);
        roads(x, Due.many(40, "ab99", ";") + ";", -1200);
        roads(x, Due.many(40, "ab99", ";"), 40);
    }

    private static void roadsStay() {
        NightCarts x = Due.city(5);
        roads(x, "ab1;ab7;cd9;ba3", 4);
        DUE.is("two roads", x.count(7), 2);
        DUE.is("the later one", x.way(0, 1), 3);
        DUE.is("both ways", x.way(1, 0), 3);
        roads(x, "ab9;c", -1005);
        DUE.is("the ones before stay", x.way(0, 1), 3);
        DUE.is("so many", x.count(7), 2);
        roads(x, "bc2", 1);
        DUE.is("in place of all before", x.way(0, 1), -2);
        DUE.is("one road", x.count(7), 1);
        DUE.is("n 0", x.roads(0), -1);
        DUE.is("n -5", x.roads(-5), -1);
        DUE.is("it has not so many", x.roads(1), -1);
        int n = Due.text(x, Due.many(40, "ab99", ";") + ";a");
        DUE.is("n 201", x.roads(n), -1);
        DUE.is("the tape stays", x.count(6), 220);
        DUE.is("n 200", x.roads(200), -1200);
        DUE.is("empty then", x.count(6), 0);
    }

    private static void plan(NightCarts x, String text, int want) {
        DUE.is("plan " + text, Due.plan(x, 0, text), want);
    }

    private static void planFaults() {
        NightCarts x = new NightCarts();
        plan(x, "a0", 1);
        plan(x, "n99,+99,b00", 3);
        plan(x, "o1", -1000);
        plan(x, "1", -1000);
        plan(x, "-1", -1000);
        plan(x, " a1", -1000);
        plan(x, "a", -1001);
        plan(x, "+", -1001);
        plan(x, "a+", -1001);
        plan(x, "+a", -1001);
        plan(x, "a123", -1003);
        plan(x, "+001", -1003);
        plan(x, "a1;", -1002);
        plan(x, "a1,", -1003);
        plan(x, "a1,,", -1003);
        plan(x, "a1b1", -1002);
        plan(x, Due.many(16, "a1", ","), 16);
        plan(x, Due.many(17, "a1", ","), -4048);
        plan(x, Due.many(16, "a1", ",") + ",+", -4048);
        plan(x, Due.many(16, "a1", ",") + ",x", -1048);
        plan(x, Due.many(16, "a1", ",") + ",", -1048);
        DUE.is("the one before stays", x.count(100), 16);
        plan(x, "b1", 1);
        DUE.is("in place of the one before", x.count(100), 1);
    }

    private static void planCalls() {
        NightCarts x = new NightCarts();
        DUE.is("it has not so many", x.plan(0, 1), -1);
        Due.text(x, Due.many(30, "a1", ","));
        DUE.is("plan(-1, 2)", x.plan(-1, 2), -1);
        DUE.is("plan(5, 2)", x.plan(5, 2), -1);
        DUE.is("plan(0, 0)", x.plan(0, 0), -1);
        DUE.is("plan(0, 81)", x.plan(0, 81), -1);
        DUE.is("the tape stays", x.count(6), 100);
        DUE.is("plan(4, 80)", x.plan(4, 80), -4048);
        DUE.is("empty then", x.count(6), 0);
        DUE.is("plan(4)", Due.plan(x, 4, "a1"), 1);
        DUE.is("only of that cart", x.count(103), 0);
        DUE.is("of that cart", x.count(104), 1);
    }

    private static void nights() {
        NightCarts x = Due.city(2);
        DUE.is("nights(0)", x.nights(0), -1);
        DUE.is("nights(21)", x.nights(21), -1);
        DUE.is("nights(-1)", x.nights(-1), -1);
        DUE.is("none goes by", x.count(0), 0);
        x.pour(0, 5);
        x.pour(1, 12);
        Due.law(x, "c1(1=1);s3(n=0)");
        // street 0: depth 4 and 3 are enough; street 1: 11 to 3 are, in nine hours; 2 is swept
        DUE.is("nights(1)", x.nights(1), 10 * 2 + 20 * 9);
        DUE.is("the night", x.count(0), 1);
        DUE.is("slept", x.count(1), 200);
        DUE.is("swept", x.count(2), 2);
        DUE.is("depth then", x.count(71), 0);
        x.pour(1, 4);
        DUE.is("nights(20)", x.nights(20), 20 * 3);
        DUE.is("the night", x.count(0), 21);
        DUE.is("slept", x.count(1), 260);
        x.cart(0, 10);
        Due.roads(x, "ab5");
        Due.plan(x, 0, "+10,b10");
        DUE.is("three nights with a cart", x.nights(3), 3 * 20 * 9);
        DUE.is("the night", x.count(0), 24);
        Due.law(x, "s1(1=1)");
        Due.roads(x, "ab59");
        DUE.is("they start in minute 0", x.nights(1), 20 * 10);
        Due.roads(x, "ab60");
        DUE.is("a minute too late for the first hour", x.nights(1), 20 * 9);
    }

    private static void tried() {
        NightCarts x = Due.city(3);
        x.cart(0, 20);
        x.cart(3, 9);
        Due.roads(x, "ab30;bc31");
        Due.law(x, "w2(1=1);c1(1=1);s4(1=1);u1(1=1)");
        Due.plan(x, 0, "+20,b5,+3,c99");
        Due.plan(x, 3, "+4,b2,a2");
        x.pour(2, 7);
        // cart 0: at a 0 to 20, at b 50 to 55, at a 85 to 88, at c 149 to 167; cart 3: at a 0, b 34, a 66
        DUE.is("slept", x.tried(0), 30 * (1 + 5) + 20);
        DUE.is("swept", x.tried(1), 0);
        DUE.is("wasted", x.tried(2), 17 + 5 + 2);
        DUE.is("carried off", x.tried(3), 8 + 2);
        DUE.is("left", x.tried(4), 5 + 18 + 2 + 2);
        DUE.is("stops", x.tried(5), 7);
        DUE.is("cart 0 has", x.tried(30), 0);
        DUE.is("cart 3 has", x.tried(33), 0);
        DUE.is("cart 0 last", x.tried(40), 149);
        DUE.is("cart 3 last", x.tried(43), 66);
        DUE.is("depth", x.tried(12), 0);
        DUE.is("nothing is changed", x.count(72), 7);
        DUE.is("nor the night", x.count(0), 0);
        DUE.is("nor slept", x.count(1), 0);
    }

    private static void triedCarts() {
        NightCarts x = Due.city(3);
        x.cart(0, 20);
        Due.roads(x, "ab99;bc99");
        Due.plan(x, 0, "+20,b0,c5,b2");
        DUE.is("no law: no minutes for a yard", x.tried(40), 297);
        DUE.is("it has", x.tried(30), 13);
        DUE.is("swept", x.tried(1), 7);
        DUE.is("slept", x.tried(0), 30 * 7 + 20 * 6);
        DUE.is("depth b", x.tried(11), 2);
        DUE.is("depth c", x.tried(12), 5);
        Due.plan(x, 0, "+20,c5,a1,c5,a1");
        DUE.is("the last stop not by 599", x.tried(40), -2);
        DUE.is("stops by then", x.tried(5), 4);
        Due.plan(x, 0, "+20,d5,n1");
        DUE.is("stops passed over behind the last", x.tried(40), 0);
        DUE.is("stops", x.tried(5), 1);
        Due.plan(x, 0, "d5");
        DUE.is("it does none", x.tried(40), -2);
        x.cart(1, 1);
        DUE.is("no plan", x.tried(41), -2);
        DUE.is("no plan: it has", x.tried(31), 0);
        DUE.is("untold cart", x.tried(32), -1);
        DUE.is("untold cart", x.tried(42), -1);
        DUE.is("untold cart", x.tried(44), -1);
        DUE.is("no such cart", x.tried(35), -1);
        DUE.is("no such cart", x.tried(45), -1);
        DUE.is("untold street", x.tried(13), -1);
        DUE.is("no such street", x.tried(24), -1);
        DUE.is("no such what", x.tried(6), -1);
        DUE.is("no such what", x.tried(-1), -1);
        DUE.is("no such what", x.tried(Integer.MAX_VALUE), -1);
        DUE.is("no such what", x.tried(Integer.MIN_VALUE), -1);
    }

    private static void triedEdges() {
        NightCarts x = Due.city(2);
        x.cart(0, 99);
        x.cart(1, 99);
        Due.roads(x, "ab99");
        Due.law(x, "u9(1=1)");
        Due.plan(x, 0, "+55,b1,b0");
        DUE.is("arrives at 594", x.tried(5), 2);
        DUE.is("goes on at 603", x.tried(40), -2);
        Due.roads(x, "ab95");
        Due.plan(x, 0, "+56,b1");
        DUE.is("arrives at 599", x.tried(40), 599);
        DUE.is("swept", x.tried(1), 1);
        Due.roads(x, "ab96");
        DUE.is("arrives at 600", x.tried(40), -2);
        DUE.is("arrives at 600: stops", x.tried(5), 1);
        x.pour(1, 990);
        Due.roads(x, "ab5");
        Due.law(x, "u1(1=1)");
        Due.plan(x, 0, "+20,b20,b0");
        DUE.is("left, lost ones too", x.tried(4), 20);
        DUE.is("depth 999 at most", x.tried(11), 999);
        DUE.is("minutes for lost ones, too", x.tried(40), 45);
        Due.plan(x, 0, "+60,+60,b1");
        DUE.is("as far as it has room", x.tried(40), 104);
        DUE.is("it has", x.tried(30), 98);
        NightCarts y = new NightCarts();
        y.street(1, 9, 0, 0);
        y.cart(0, 9);
        Due.plan(y, 0, "+5,b5");
        DUE.is("the pit is not told", y.tried(5), 0);
        DUE.is("the pit is not told: last", y.tried(40), -2);
        DUE.is("the pit is not told: load", y.tried(30), 0);
        y.street(0, 0, 0, 0);
        DUE.is("no road", y.tried(5), 1);
        DUE.is("no road: load", y.tried(30), 5);
        Due.plan(y, 0, "+5,a3");
        DUE.is("the pit is a street", y.tried(10), 3);
    }

    private static void triedFacts() {
        NightCarts x = Due.city(3);
        x.cart(2, 99);
        Due.roads(x, "ab40;bc40");
        Due.plan(x, 2, "+9,b3,b3,c1,c0");
        Due.law(x, "u1(k=2&i=1&d=0&r=0);u2(k=2&i=1&d=3);u7(i=2&r=1&h=30&l=2&g=10&n=0);u0(1=1)");
        // b at 40 to 43, 43 to 49, c at 89 to 96
        DUE.is("u is asked then, ahead of that", x.tried(42), 96);
        NightCarts y = Due.city(1);
        y.pour(0, 100);
        Due.law(y, "w10(d=100);c1(d=90);c50(d=100);s88(d=89&r=0)");
        DUE.is("c is asked behind w", y.tried(3), 1);
        DUE.is("w", y.tried(2), 10);
        Due.law(y, "w10(r=0&k=0);s90(d=90&r=0);s91(d=90)");
        DUE.is("s is asked behind them", y.tried(0), 10);
        Due.law(y, "s100(r=9);s101(1=1)");
        DUE.is("hour 9", y.tried(0), 10);
        Due.law(y, "w999(1=1)");
        DUE.is("none at depth 0", y.tried(0), 0);
        NightCarts z = Due.city(2);
        z.cart(0, 10);
        z.cart(1, 10);
        Due.roads(z, "ab59");
        Due.plan(z, 0, "+1,b1");
        Due.plan(z, 1, "+2,b2,b0");
        Due.law(z, "u1(d=1);s3(1=1)");
        DUE.is("carts by numbers, ahead of the hour's end", z.tried(0), 200);
        DUE.is("cart 1 waits for its yards", z.tried(41), 61);
    }

    private static void way() {
        NightCarts x = Due.city(5);
        Due.roads(x, "ab5;bc7;ac20;de99");
        DUE.is("way(0, 2)", x.way(0, 2), 12);
        DUE.is("way(2, 0)", x.way(2, 0), 12);
        DUE.is("way(3, 4)", x.way(3, 4), 99);
        DUE.is("way(0, 3)", x.way(0, 3), -2);
        DUE.is("way(3, 3)", x.way(3, 3), 0);
        DUE.is("way(0, 5)", x.way(0, 5), -1);
        DUE.is("way(5, 5)", x.way(5, 5), -1);
        DUE.is("way(-1, 0)", x.way(-1, 0), -1);
        DUE.is("way(0, 14)", x.way(0, 14), -1);
        Due.roads(x, "ab5;bc7;ac11");
        DUE.is("the road itself", x.way(0, 2), 11);
        NightCarts y = Due.city(14);
        Due.roads(y, "ab99;bc99;cd99;de99;ef99;fg99;gh99;hi99;ij99;jk99;kl99;lm99;mn99");
        DUE.is("the longest way", y.way(0, 13), 1287);
    }

    private static void round() {
        NightCarts x = Due.city(9);
        Due.roads(x, "ab1;bc1;cd1;da1;ac5;bd5");
        DUE.is("round 20", x.round(0, 14, 20), 4);
        DUE.is("round 0", x.round(0, 14, 0), 1);
        DUE.is("round 1", x.round(0, 14, 1), 2);
        DUE.is("round 2", x.round(0, 14, 2), 3);
        DUE.is("round from 2", x.round(2, 11, 0), 1);
        DUE.is("round from 2", x.round(2, 11, 1), 0);
        DUE.is("one other", x.round(1, 8, 20), 4);
        DUE.is("one other", x.round(1, 8, 0), 3);
        DUE.is("no place 3", x.round(0, 14, 3), -1);
        DUE.is("no place 4", x.round(0, 14, 4), -1);
        DUE.is("no place -1", x.round(0, 14, -1), -1);
        DUE.is("no place 19", x.round(0, 14, 19), -1);
        DUE.is("one can't be come to", x.round(0, 30, 20), -2);
        DUE.is("one can't be come to", x.round(0, 30, 0), -2);
        DUE.is("itself", x.round(0, 15, 20), -1);
        DUE.is("none", x.round(0, 0, 20), -1);
        DUE.is("eight", x.round(0, 510, 20), -1);
        DUE.is("an untold one", x.round(0, 512, 20), -1);
        DUE.is("no such bits", x.round(0, -2, 20), -1);
        DUE.is("no such bits", x.round(0, 1 << 14, 20), -1);
        DUE.is("from an untold one", x.round(9, 1, 20), -1);
        Due.roads(x, "ah1;hb1;bg1;gc1;cf1;fd1;de1;ea1");
        DUE.is("seven", x.round(0, 254, 20), 8);
        int[] ring = {4, 3, 5, 2, 6, 1, 7};
        for (int p = 0; p < 7; p++) {
            DUE.is("seven at " + p, x.round(0, 254, p), ring[p]);
        }
    }

    private static void share() {
        NightCarts x = Due.city(7);
        x.pour(0, 10);
        x.pour(1, 4);
        x.pour(2, 998);
        DUE.is("level", x.share(20, 3, 20), 17);
        DUE.is("level, street 0", x.share(20, 3, 0), 7);
        DUE.is("level, street 1", x.share(20, 3, 1), 13);
        DUE.is("odd: least", x.share(21, 3, 20), 17);
        DUE.is("odd: the least row", x.share(21, 3, 0), 7);
        DUE.is("odd: the least row", x.share(21, 3, 1), 14);
        DUE.is("few", x.share(3, 3, 20), 7);
        DUE.is("few: the higher gets none", x.share(3, 3, 0), 0);
        DUE.is("none", x.share(0, 3, 20), 4);
        DUE.is("over the last's room", x.share(5, 6, 1), 5);
        DUE.is("over the last's room", x.share(5, 6, 2), 0);
        x.pour(1, 994);
        DUE.is("all but full", x.share(2, 6, 20), 999);
        DUE.is("what is over", x.share(1, 6, 20), 998);
        DUE.is("what is over: the least row", x.share(1, 6, 1), 0);
        DUE.is("what is over: the least row", x.share(1, 6, 2), 1);
        DUE.is("they don't hold so many", x.share(3, 6, 20), -2);
        DUE.is("they don't hold so many", x.share(3, 6, 1), -2);
        DUE.is("600", x.share(600, 1, 20), 610);
        DUE.is("601", x.share(601, 1, 20), -1);
        DUE.is("-1", x.share(-1, 1, 20), -1);
        DUE.is("no streets", x.share(1, 0, 20), -1);
        DUE.is("six", x.share(0, 63, 20), 0);
        DUE.is("seven", x.share(0, 127, 20), -1);
        DUE.is("untold", x.share(0, 128, 20), -1);
        DUE.is("not of them", x.share(1, 6, 0), -1);
        DUE.is("no such what", x.share(1, 6, -1), -1);
        DUE.is("no such what", x.share(1, 6, 33), -1);
        DUE.is("nothing is left there", x.count(73), 0);
        NightCarts y = Due.city(3);
        y.pour(2, 999);
        int[] beside = {1, 2, 0};
        for (int i = 0; i < 3; i++) {
            DUE.is("the last is full, street " + i, y.share(3, 7, i), beside[i]);
        }
        y.pour(0, 997);
        y.pour(1, 997);
        y.nights(1);
        for (int i = 0; i < 3; i++) {
            y.pour(i, 997);
        }
        int[] full = {1, 2, 2};
        for (int i = 0; i < 3; i++) {
            DUE.is("all are nearly full, street " + i, y.share(5, 7, i), full[i]);
        }
    }

    private static void sleepful() {
        NightCarts x = Due.city(9);
        Due.law(x, "s20(i=0);s10(i=1);s10(i=2);s0(1=1)");
        x.pour(0, 5);
        x.pour(3, 1);
        x.street(4, 0, 0, 0);
        x.pour(4, 1);
        // missing: 15 for 10 houses, 10 for 20, 10 for 30, none for 40, none for no houses, 1 for 60
        DUE.is("most houses", x.sleepful(20, 63, 0), 130);
        DUE.is("fewest yards", x.sleepful(20, 63, 1), 11);
        DUE.is("streets", x.sleepful(20, 63, 2), 32 + 16 + 8 + 4);
        DUE.is("more", x.sleepful(21, 63, 0), 150);
        DUE.is("more", x.sleepful(21, 63, 1), 21);
        DUE.is("all", x.sleepful(300, 63, 2), 63);
        DUE.is("all", x.sleepful(36, 63, 1), 36);
        DUE.is("without a yard", x.sleepful(0, 63, 2), 24);
        DUE.is("without a yard", x.sleepful(0, 63, 0), 40);
        x.street(1, 30, 0, 0);
        DUE.is("of like ones the least bits", x.sleepful(10, 6, 2), 2);
        x.street(2, 0, 0, 0);
        DUE.is("none for no houses", x.sleepful(300, 4, 2), 0);
        DUE.is("none for no houses", x.sleepful(300, 4, 1), 0);
        DUE.is("yards 301", x.sleepful(301, 6, 0), -1);
        DUE.is("yards -1", x.sleepful(-1, 6, 0), -1);
        DUE.is("no streets", x.sleepful(1, 0, 0), -1);
        DUE.is("eight", x.sleepful(0, 255, 0), 40);
        DUE.is("nine", x.sleepful(0, 511, 0), -1);
        DUE.is("untold", x.sleepful(0, 512, 0), -1);
        DUE.is("what 3", x.sleepful(0, 1, 3), -1);
        DUE.is("what -1", x.sleepful(0, 1, -1), -1);
        DUE.is("nothing is left there", x.count(71), 0);
        Due.law(x, "s9(d=0&r=0);s1(1=1)");
        DUE.is("s by depth as it is", x.sleepful(300, 2, 1), 9);
    }

    private static void pitAt() {
        NightCarts x = Due.city(6);
        DUE.is("no roads", x.pitAt(0), 0);
        DUE.is("no roads", x.pitAt(1), 0);
        DUE.is("no roads", x.pitAt(3), 0);
        Due.roads(x, "ab1;bc1;cd1;de50;ef1");
        DUE.is("the farthest is nearest", x.pitAt(0), 3);
        DUE.is("how far", x.pitAt(1), 51);
        DUE.is("by the sum", x.pitAt(2), 2);
        DUE.is("the sum", x.pitAt(3), 2 + 1 + 1 + 51 + 52);
        DUE.is("what 4", x.pitAt(4), -1);
        DUE.is("what -1", x.pitAt(-1), -1);
        Due.roads(x, "ab9;cd1;de1;ac9;be30");
        Due.roads(x, "ab1;de20;ef20");
        DUE.is("most others come first", x.pitAt(0), 4);
        DUE.is("most others come first", x.pitAt(3), 40);
        Due.roads(x, "ab5;bc5;ca5");
        DUE.is("of like ones the lowest", x.pitAt(0), 0);
        DUE.is("of like ones the lowest", x.pitAt(2), 0);
        NightCarts y = Due.city(1);
        DUE.is("one street", y.pitAt(0), 0);
        DUE.is("one street", y.pitAt(1), 0);
        NightCarts z = new NightCarts();
        z.street(5, 1, 1, 1);
        DUE.is("one other street", z.pitAt(2), 5);
    }

    private static void cut() {
        NightCarts x = Due.city(7);
        Due.roads(x, "ab1;bc1;ca1;gd1;dc1;ef1");
        DUE.is("how many", x.cut(0), 3);
        DUE.is("the first", x.cut(1), 2);
        DUE.is("the first", x.cut(2), 3);
        Due.roads(x, "ab1;bc1;ca1");
        DUE.is("none", x.cut(0), 0);
        DUE.is("none", x.cut(1), -2);
        DUE.is("none", x.cut(2), -2);
        DUE.is("what 3", x.cut(3), -1);
        DUE.is("what -1", x.cut(-1), -1);
        Due.roads(x, "fg1;ga1;ab9");
        DUE.is("the lower street first", x.cut(1), 0);
        DUE.is("then the higher one", x.cut(2), 1);
        DUE.is("all", x.cut(0), 3);
    }

    private static void strike() {
        NightCarts x = Due.city(2);
        x.cart(0, 50);
        Due.roads(x, "ab10");
        Due.plan(x, 0, "+50,b50");
        DUE.is("strike(0)", x.strike(0), 200);
        DUE.is("strike(49)", x.strike(49), 200);
        DUE.is("strike(50)", x.strike(50), 180);
        DUE.is("strike(589)", x.strike(589), 20);
        DUE.is("strike(590)", x.strike(590), 0);
        DUE.is("strike(600)", x.strike(600), 0);
        DUE.is("strike(601)", x.strike(601), -1);
        DUE.is("strike(-1)", x.strike(-1), -1);
        Due.law(x, "u9(r=1)");
        DUE.is("u by the minute", x.strike(45), 200);
        DUE.is("u by the minute", x.strike(60), 40);
        DUE.is("nothing is changed", x.count(0), 0);
    }

    private static void enough() {
        NightCarts x = Due.city(2);
        DUE.is("no law", x.enough(0), 1);
        x.pour(0, 1);
        DUE.is("no law", x.enough(0), 0);
        Due.law(x, "w5(r<5);c2(1=1);s30(r=9);s20(1=1)");
        DUE.is("of both", x.enough(0), 30 + 25 + 20 - 1);
        DUE.is("of 1", x.enough(1), 75);
        DUE.is("untold", x.enough(2), -1);
        DUE.is("untold", x.enough(-1), -1);
        DUE.is("untold", x.enough(14), -1);
        Due.law(x, "w90(1=1)");
        DUE.is("901", x.enough(1), 901);
        Due.law(x, "w100(1=1)");
        DUE.is("none are", x.enough(1), -2);
        Due.law(x, "c99(1=1);s9(1=1)");
        DUE.is("999", x.enough(1), 999);
        Due.law(x, "c99(1=1);s10(1=1)");
        DUE.is("none are", x.enough(1), -2);
        Due.law(x, "s999(d=50);s40(1=1)");
        x.pour(1, 50);
        DUE.is("by the depth of each hour", x.enough(1), 1);
        DUE.is("nothing is poured", x.count(71), 50);
    }

    private static void oneStop() {
        NightCarts x = Due.city(4);
        x.cart(1, 30);
        x.cart(2, 30);
        Due.roads(x, "ab10;bc60");
        Due.plan(x, 2, "+30,a30");
        DUE.is("the street", x.oneStop(1, 20, 0), 2);
        DUE.is("hours", x.oneStop(1, 20, 1), 30 * 9);
        Due.law(x, "s20(i=2);u1(k=1)");
        DUE.is("yards for the farther one", x.oneStop(1, 20, 0), 2);
        DUE.is("too few", x.oneStop(1, 19, 0), 1);
        DUE.is("too few", x.oneStop(1, 19, 1), 200);
        Due.law(x, "s40(1=1)");
        DUE.is("of like ones the lowest", x.oneStop(1, 99, 0), 0);
        DUE.is("of like ones the lowest", x.oneStop(1, 99, 1), 0);
        Due.law(x, "s1(1=1)");
        x.pour(2, 1);
        DUE.is("in all", x.oneStop(1, 1, 1), 300 + 200);
        Due.roads(x, "ad59;ab60");
        DUE.is("it starts in minute 0", x.oneStop(1, 1, 1), 300 + 400);
        DUE.is("a plan stays", x.count(102), 2);
        DUE.is("the other plan stays", x.count(101), 0);
        DUE.is("yards 0", x.oneStop(1, 0, 0), -1);
        DUE.is("yards 100", x.oneStop(1, 100, 0), -1);
        DUE.is("what 2", x.oneStop(1, 1, 2), -1);
        DUE.is("what -1", x.oneStop(1, 1, -1), -1);
        DUE.is("untold cart", x.oneStop(0, 1, 0), -1);
        DUE.is("no such cart", x.oneStop(5, 1, 0), -1);
        DUE.is("no such cart", x.oneStop(-1, 1, 0), -1);
        NightCarts y = new NightCarts();
        y.cart(0, 5);
        DUE.is("no street is told", y.oneStop(0, 1, 0), -2);
        DUE.is("no street is told", y.oneStop(0, 1, 1), -2);
        y.street(3, 5, 0, 0);
        y.street(4, 9, 0, 0);
        DUE.is("the pit is not told", y.oneStop(0, 1, 0), 3);
        DUE.is("the pit is not told", y.oneStop(0, 1, 1), 0);
    }

    private static void out() {
        NightCarts x = Due.city(5);
        Due.law(x, "wl*3(r<2);wl(i=4);w50-l(i=1&r=9)");
        // street 0: none; 1: 6 and 1 less than nothing; 2: 12; 3: 18; 4: 24 + 32
        DUE.is("one", x.out(1, 0), 56);
        DUE.is("one", x.out(1, 1), 16);
        DUE.is("three", x.out(3, 0), 86);
        DUE.is("three", x.out(3, 1), 28);
        DUE.is("five", x.out(5, 0), 91);
        DUE.is("five", x.out(5, 1), 31);
        DUE.is("six", x.out(6, 0), -1);
        DUE.is("none", x.out(0, 0), -1);
        DUE.is("what 2", x.out(1, 2), -1);
        DUE.is("what -1", x.out(1, -1), -1);
        Due.law(x, "w5(1=1)");
        DUE.is("of like ones the least", x.out(2, 0), 0);
        DUE.is("of like ones the least", x.out(2, 1), 3);
        Due.law(x, "w100-l*10(i>2);w100-l(d=7)");
        x.pour(1, 7);
        DUE.is("less than nothing", x.out(4, 0), -10 - 300);
        DUE.is("less than nothing", x.out(4, 1), 15);
        NightCarts y = Due.city(2);
        DUE.is("more than are told", y.out(3, 0), -1);
        DUE.is("as many as are told", y.out(2, 1), 3);
        DUE.is("six of seven", Due.city(7).out(6, 0), -1);
    }

    private static void jobs(int carts, int what, int want, int... minutes) {
        NightCarts x = new NightCarts();
        Due.bytes(x, minutes);
        DUE.is("jobs among " + carts + ", what " + what, x.jobs(minutes.length, carts, what), want);
        DUE.is("empty then", x.count(6), 0);
    }

    private static void jobs() {
        jobs(2, 10, 7, 3, 4, 5);
        jobs(2, 2, 1, 3, 4, 5);
        jobs(3, 10, 17, 10, 9, 8, 7, 6, 5, 4, 1);
        jobs(3, 10, 255, 255);
        jobs(3, 0, 0, 255);
        jobs(2, 1, 0, 5, 0, 5);
        jobs(2, 2, 1, 5, 0, 5);
        jobs(3, 10, 0, 0, 0, 0, 0, 0, 0, 0, 0);
        jobs(3, 7, 0, 0, 0, 0, 0, 0, 0, 0, 0);
        jobs(3, 2, 0, 2, 2, 2, 6);
        jobs(3, 3, 1, 2, 2, 2, 6);
        jobs(3, 1, 0, 2, 2, 2, 6);
        jobs(3, 3, 2, 1, 1, 7, 7);
        jobs(1, 10, 2040, 255, 255, 255, 255, 255, 255, 255, 255);
        jobs(0, 10, -4, 1);
        jobs(4, 10, -4, 1);
        jobs(2, 1, -4, 1);
        jobs(2, -1, -4, 1);
        jobs(2, 9, -4, 1, 2, 3);
        jobs(2, 11, -4, 1, 2, 3);
        NightCarts x = new NightCarts();
        DUE.is("jobs: it has not so many", x.jobs(1, 2, 10), -1);
        Due.bytes(x, 1, 2, 3);
        DUE.is("n 0", x.jobs(0, 2, 10), -1);
        DUE.is("n 9", x.jobs(9, 2, 10), -1);
        DUE.is("the tape stays", x.count(6), 20);
    }

    private static void load(int yards, int what, int want, int... heaps) {
        NightCarts x = new NightCarts();
        Due.bytes(x, heaps);
        DUE.is("load " + yards + ", what " + what, x.load(heaps.length / 2, yards, what), want);
        DUE.is("empty then", x.count(6), 0);
    }

    private static void load() {
        load(7, 0, 10, 3, 1, 4, 9, 7, 5);
        load(7, 1, 3, 3, 1, 4, 9, 7, 5);
        load(7, 1, 4, 3, 1, 4, 9, 7, 11);
        load(7, 1, 3, 3, 1, 4, 9, 7, 10);
        load(5, 0, -2, 3, 1, 4, 9, 7, 5);
        load(5, 1, -2, 3, 1, 4, 9, 7, 5);
        load(0, 0, 0, 3, 1);
        load(0, 1, 0, 3, 1);
        load(0, 1, 2, 3, 1, 0, 2, 0, 0);
        load(999, 0, 800, 255, 200, 255, 200, 255, 200, 234, 200);
        load(8, 1, 255, 1, 1, 1, 1, 1, 1, 1, 1, 1, 1, 1, 1, 1, 1, 1, 1);
        load(4, 1, 15, 1, 1, 1, 1, 1, 1, 1, 1, 1, 1, 1, 1, 1, 1, 1, 1);
        NightCarts x = new NightCarts();
        DUE.is("load: it has not so many", x.load(1, 0, 0), -1);
        Due.bytes(x, 1, 2, 3);
        DUE.is("n 0", x.load(0, 0, 0), -1);
        DUE.is("n 9", x.load(9, 0, 0), -1);
        DUE.is("yards -1", x.load(1, -1, 0), -1);
        DUE.is("yards 1000", x.load(1, 1000, 0), -1);
        DUE.is("what 2", x.load(1, 1, 2), -1);
        DUE.is("what -1", x.load(1, 1, -1), -1);
        DUE.is("the tape stays", x.count(6), 20);
        DUE.is("then it goes", x.load(1, 1, 0), 2);
    }

    private static void brides(int what, int want, int... bytes) {
        NightCarts x = Due.city(8);
        Due.bytes(x, bytes);
        DUE.is("brides, what " + what, x.brides(bytes.length / 2, what), want);
        DUE.is("empty then", x.count(6), 0);
    }

    private static void brides() {
        brides(10, 0, 5, 0, 0, 1);
        brides(0, 1, 5, 0, 0, 1);
        brides(1, 0, 5, 0, 0, 1);
        brides(10, 5, 10, 5, 0, 2);
        brides(0, 0, 10, 10, 0, 1);
        brides(0, 3, 10, 10, 3, 1);
        brides(10, 255 - 35, 255, 7);
        brides(10, 0, 35, 30, 25, 20, 15, 10, 2, 3, 4, 5, 6, 7);
        brides(0, 7, 35, 30, 25, 20, 15, 10, 2, 3, 4, 5, 6, 7);
        brides(5, 2, 35, 30, 25, 20, 15, 10, 2, 3, 4, 5, 6, 7);
        brides(5, 7, 10, 15, 20, 25, 30, 35, 2, 3, 4, 5, 6, 7);
        brides(0, 7, 0, 0, 0, 0, 0, 0, 7, 3, 4, 5, 6, 2);
        brides(10, -2, 1, 2, 3, 3);
        brides(10, -2, 1, 2, 3, 8);
        brides(10, -2, 1, 2, 3, 14);
        brides(10, -2, 1, 2, 255, 3);
        brides(2, -4, 1, 2, 3, 4);
        brides(-1, -4, 1, 2, 3, 4);
        brides(11, -4, 1, 2, 3, 4);
        brides(2, -2, 1, 2, 3, 3);
        NightCarts x = Due.city(8);
        DUE.is("brides: it has not so many", x.brides(1, 10), -1);
        Due.bytes(x, 1, 2, 3);
        DUE.is("n 0", x.brides(0, 10), -1);
        DUE.is("n 7", x.brides(7, 10), -1);
        DUE.is("the tape stays", x.count(6), 20);
    }

    private static void thieves(int missing, int what, int want, int... yards) {
        NightCarts x = new NightCarts();
        Due.bytes(x, yards);
        DUE.is("thieves " + missing + ", what " + what, x.thieves(yards.length, missing, what), want);
        DUE.is("empty then", x.count(6), 0);
    }

    private static void thieves() {
        thieves(7, 0, 2, 3, 4, 7);
        thieves(7, 1, 3, 3, 4, 7);
        thieves(7, 2, 0, 3, 4, 7);
        thieves(14, 2, 7, 3, 4, 7);
        thieves(5, 0, 0, 3, 4, 7);
        thieves(5, 1, -2, 3, 4, 7);
        thieves(5, 2, -2, 3, 4, 7);
        thieves(9, 0, 2, 1, 5, 3, 3);
        thieves(9, 1, 7, 1, 5, 3, 3);
        thieves(9, 2, 3, 1, 5, 3, 3);
        thieves(0, 0, 1, 3);
        thieves(0, 1, 0, 3);
        thieves(0, 2, 0, 3);
        thieves(0, 0, 4, 0, 0);
        thieves(2550, 1, 1023, 255, 255, 255, 255, 255, 255, 255, 255, 255, 255);
        thieves(5, 0, 252, 1, 1, 1, 1, 1, 1, 1, 1, 1, 1);
        NightCarts x = new NightCarts();
        DUE.is("thieves: it has not so many", x.thieves(1, 0, 0), -1);
        Due.bytes(x, 1, 2, 3);
        DUE.is("n 0", x.thieves(0, 0, 0), -1);
        DUE.is("n 11", x.thieves(11, 0, 0), -1);
        DUE.is("missing -1", x.thieves(1, -1, 0), -1);
        DUE.is("missing 2551", x.thieves(1, 2551, 0), -1);
        DUE.is("what 3", x.thieves(1, 1, 3), -1);
        DUE.is("what -1", x.thieves(1, 1, -1), -1);
        DUE.is("the tape stays", x.count(6), 20);
        DUE.is("then it goes", x.thieves(1, 1, 0), 1);
    }

    private static void latest(NightCarts x, int want, int... bytes) {
        Due.bytes(x, bytes);
        DUE.is("latest", x.latest(bytes.length / 3), want);
        DUE.is("empty then", x.count(6), 0);
    }

    private static void latest() {
        NightCarts x = Due.city(4);
        Due.roads(x, "ab10;bc5");
        latest(x, 20, 1, 0, 30, 2, 0, 40);
        latest(x, 20, 1, 0, 30, 2, 0, 35);
        latest(x, 19, 1, 0, 30, 2, 0, 34);
        latest(x, 5, 2, 0, 50, 1, 0, 50, 1, 0, 25);
        latest(x, 0, 1, 0, 10);
        latest(x, -2, 1, 0, 9);
        latest(x, 7, 0, 0, 7);
        latest(x, 65525, 1, 255, 255);
        latest(x, 246, 1, 1, 0);
        latest(x, -2, 3, 255, 255);
        latest(x, -3, 4, 255, 255);
        latest(x, -3, 14, 255, 255);
        latest(x, -3, 255, 255, 255);
        latest(x, -3, 1, 0, 0, 9, 1, 1);
        latest(x, 155, 1, 0, 200, 0, 0, 200, 1, 0, 200, 2, 0, 200, 1, 0, 255, 2, 0, 200);
        DUE.is("latest: it has not so many", x.latest(1), -1);
        Due.bytes(x, 1, 2, 3);
        DUE.is("n 0", x.latest(0), -1);
        DUE.is("n 7", x.latest(7), -1);
        Due.bytes(x, 1, 2, 3);
        DUE.is("n 7 of 40 bytes", x.latest(7), -1);
        DUE.is("the tape stays", x.count(6), 40);
        NightCarts y = new NightCarts();
        y.street(1, 0, 0, 0);
        latest(y, -2, 1, 9, 9);
        latest(y, -3, 0, 9, 9);
    }

    private static void keepAndUndo() {
        NightCarts x = Due.city(3);
        x.cart(0, 9);
        x.pour(0, 5);
        x.pour(2, 8);
        x.nights(2);
        DUE.is("nothing was kept", x.undo(), false);
        DUE.is("the night stays", x.count(0), 2);
        x.pour(0, 6);
        x.pour(1, 9);
        DUE.is("yards in all", x.keep(), 15);
        x.nights(1);
        x.pour(2, 3);
        x.street(1, 77, 7, 7);
        DUE.is("undo", x.undo(), true);
        DUE.is("night", x.count(0), 2);
        DUE.is("slept", x.count(1), 10 * 10 + 30 * 10);
        DUE.is("swept", x.count(2), 13);
        DUE.is("depth 0", x.count(70), 6);
        DUE.is("depth 1", x.count(71), 9);
        DUE.is("depth 2", x.count(72), 0);
        DUE.is("streets are not undone", x.count(11), 77);
        x.pour(0, 1);
        DUE.is("undo again", x.undo(), true);
        DUE.is("depth 0 again", x.count(70), 6);
        x.pour(0, 1);
        DUE.is("keep anew", x.keep(), 16);
        x.pour(0, 1);
        x.undo();
        DUE.is("as kept last", x.count(70), 7);
    }

    private static void check() {
        NightCarts x = Due.city(3);
        x.pour(0, 0x0123);
        x.pour(2, 4);
        Due.bytes(x, 1, 0x23, 0, 0, 0, 4);
        DUE.is("right", x.check(3), -1);
        DUE.is("empty then", x.count(6), 0);
        Due.bytes(x, 1, 0x23, 0, 0, 0, 4);
        DUE.is("untold ones are 0", x.check(10), -1);
        Due.bytes(x, 1, 0x23, 0, 1, 0, 5);
        DUE.is("the first that is not so", x.check(3), 1);
        Due.bytes(x, 0, 0x23, 0, 1, 0, 5);
        DUE.is("place 0", x.check(3), 0);
        Due.bytes(x, 1, 0x23, 0, 0, 1, 4);
        DUE.is("place 2", x.check(3), 2);
        Due.bytes(x, 1, 0x23, 0, 0, 1, 4);
        DUE.is("only two", x.check(2), -1);
        DUE.is("none", x.check(0), -1);
        Due.bytes(x, 1);
        DUE.is("n 15", x.check(15), -2);
        DUE.is("n -1", x.check(-1), -2);
        DUE.is("it has not so many", x.check(11), -2);
        DUE.is("the tape stays", x.count(6), 20);
        DUE.is("none, of a tape", x.check(0), -1);
        DUE.is("empty then", x.count(6), 0);
        Due.bytes(x, 1, 0x23, 0, 0, 0, 4, 0, 0, 0, 0, 0, 0, 0, 0, 0, 0, 0, 0, 0, 0, 0, 0, 0, 0, 0, 0, 0, 9);
        DUE.is("fourteen", x.check(14), 13);
    }

    private static void count() {
        NightCarts x = Due.city(14);
        x.street(13, 1, 2, 3);
        x.pour(13, 4);
        x.cart(4, 44);
        Due.roads(x, "ab1;cd2;ba3");
        Due.law(x, "w1(1=1);w2(2=2)");
        Due.plan(x, 3, "a1,b1,+1");
        x.feed(0, 0, 0, 0, 0);
        int[] whats = {0, 1, 2, 3, 4, 5, 6, 7, 23, 43, 63, 83, 94, 103, 104, 10, 30, 50, 70};
        int[] wants = {0, 0, 0, 16383, 16, 2, 20, 2, 1, 2, 3, 4, 44, 3, 0, 10, 0, 0, 0};
        for (int p = 0; p < whats.length; p++) {
            DUE.is("count(" + whats[p] + ")", x.count(whats[p]), wants[p]);
        }
        int[] others = {-1, 8, 9, 24, 29, 44, 49, 64, 69, 84, 89, 90, 93, 95, 99, 105, 1000, Integer.MAX_VALUE,
            Integer.MIN_VALUE};
        for (int what : others) {
            DUE.is("count(" + what + ")", x.count(what), -1);
        }
        NightCarts y = new NightCarts();
        for (int what : new int[] {10, 30, 50, 70, 90}) {
            DUE.is("untold: count(" + what + ")", y.count(what), -1);
        }
    }

    /** A city of two streets and a cart in night 9998: 503 of the 512 calls are used. */
    private static NightCarts beforeLastNight() {
        NightCarts x = Due.city(2);
        x.cart(0, 9);
        for (int call = 0; call < 499; call++) {
            x.nights(20);
        }
        x.nights(18);
        return x;
    }

    private static void lastNight() {
        NightCarts x = beforeLastNight();
        x.pour(0, 5);
        DUE.is("9998: tried", x.tried(0), 100);
        DUE.is("9998: strike", x.strike(0), 100);
        DUE.is("one can go by", x.nights(20), 100);
        DUE.is("the last night", x.count(0), 9999);
        x.pour(0, 5);
        DUE.is("none goes by", x.nights(1), 0);
        DUE.is("nothing is swept", x.count(70), 5);
        NightCarts y = beforeLastNight();
        DUE.is("9998: oneStop", y.oneStop(0, 1, 1), 100);
        y.nights(1);
        DUE.is("9999: tried", y.tried(0), -1);
        DUE.is("9999: strike", y.strike(0), -1);
        DUE.is("9999: oneStop", y.oneStop(0, 1, 0), -1);
        DUE.is("9999: enough", y.enough(0), 1);
        y.keep();
        DUE.is("9999: undo", y.undo(), true);
        DUE.is("9999: the night", y.count(0), 9999);
    }
}
