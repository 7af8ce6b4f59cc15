/** The edges of streets, carts and nights (promises 1 to 4, 9, 10, 17 to 19), a test for each sentence. */
public final class NightEdgesTest {
    private static final Due DUE = new Due();
    private static final int[] FAR = {Integer.MIN_VALUE, Integer.MIN_VALUE + 1, -1000, Integer.MAX_VALUE};

    public static void main(String[] args) {
        newObjectIsEmpty();
        streetNumbers();
        streetWorths();
        streetAnew();
        cartNumbers();
        cartAnew();
        pourYards();
        pourAtMost999();
        pourIntoTold();
        nightsNumbers();
        nightsFullest();
        nightsOneByOne();
        nightsAsManyAsCan();
        nothingIn9999();
        startsEmptyAtThePit();
        takesAsFarAsRoom();
        leavesAsFarAsItHas();
        depthAtMost999();
        passedOverWithoutMinutes();
        untoldStreetIsPassedOver();
        untoldPitPassesAllOver();
        minutesForEachYard();
        uAskedAheadOfThat();
        lastMinuteOfTheNight();
        firstHourEnds();
        cartsByNumbers();
        sameMinuteWhatComesNext();
        eightyStopsInAMinute();
        hourEndsWasteFirst();
        hourEndsNotBelowZero();
        sleepsBySOrMore();
        streetsByNumbers();
        sweptAtTheEnd();
        lastStreetAlone();
        untoldCartStays();
        triedNumbers();
        triedChangesNothing();
        triedLastStop();
        strikeNumbers();
        strikeAtTheEnd();
        enoughNumbers();
        enoughAtItsBounds();
        enoughThisNightAlone();
        oneStopNumbers();
        oneStopAlone();
        oneStopRoom();
        oneStopInTheLast();
        oneStopOfLikeOnes();
        DUE.end();
    }

    // promise 1

    private static void newObjectIsEmpty() {
        NightCarts x = new NightCarts();
        for (int what = 0; what <= 7; what++) {
            DUE.is("promise 1: count(" + what + ")", x.count(what), 0);
        }
        for (int i = 0; i < 14; i++) {
            DUE.is("promise 1: street " + i + " is not told", x.count(10 + i), -1);
            DUE.is("promise 1: street " + i + " is not told", x.pour(i, 0), -1);
            DUE.is("promise 1: street " + i + " is not told", x.way(i, i), -1);
        }
        for (int k = 0; k < 5; k++) {
            DUE.is("promise 1: cart " + k + " is not told", x.count(90 + k), -1);
            DUE.is("promise 1: cart " + k + " has no plan", x.count(100 + k), 0);
        }
        x.street(0, 5, 5, 5);
        DUE.is("depth is 0 at first", x.count(70), 0);
        x.street(1, 5, 5, 5);
        DUE.is("promise 1: no roads", x.way(0, 1), -2);
        x.pour(0, 1);
        DUE.is("promise 1: no law", x.tried(0), 50);
        DUE.is("nothing was kept", x.undo(), false);
    }

    // promise 2

    private static void streetNumbers() {
        NightCarts x = new NightCarts();
        for (int i : new int[] {-1, 14, 15, 32, FAR[0], FAR[1], FAR[2], FAR[3]}) {
            DUE.is("promise 2: no such street " + i, x.street(i, 0, 0, 0), false);
            DUE.is("promise 2: none is told", x.count(3), 0);
        }
        for (int i = 0; i < 14; i++) {
            DUE.is("promise 2: street " + i, x.street(i, 0, 0, 0), true);
            DUE.is("promise 2: told ones", x.count(3), (2 << i) - 1);
        }
    }

    private static void streetWorths() {
        NightCarts x = new NightCarts();
        int[] mosts = {99, 9, 99};
        for (int which = 0; which < 3; which++) {
            for (int worth : new int[] {-1, mosts[which] + 1, 256, FAR[0], FAR[1], FAR[2], FAR[3]}) {
                int[] its = {1, 1, 1};
                its[which] = worth;
                DUE.is("promise 2: no such ones", x.street(3, its[0], its[1], its[2]), false);
            }
            DUE.is("promise 2: it is not told", x.count(3), 0);
        }
        for (int which = 0; which < 3; which++) {
            for (int worth : new int[] {0, 1, mosts[which] - 1, mosts[which]}) {
                int[] its = {2, 3, 4};
                its[which] = worth;
                DUE.is("promise 2: such ones", x.street(3, its[0], its[1], its[2]), true);
                DUE.is("promise 29: houses", x.count(13), its[0]);
                DUE.is("promise 29: lamps", x.count(33), its[1]);
                DUE.is("promise 29: stars", x.count(53), its[2]);
            }
        }
    }

    private static void streetAnew() {
        NightCarts x = Due.city(2);
        Due.roads(x, "ab7");
        x.pour(1, 999);
        DUE.is("promise 2: in place of the one before", x.street(1, 0, 0, 0), true);
        DUE.is("promise 2: houses", x.count(11), 0);
        DUE.is("promise 2: roads stay", x.way(0, 1), 7);
        DUE.is("promise 2: depth stays", x.count(71), 999);
        DUE.is("promise 2: told ones", x.count(3), 3);
        DUE.is("promise 2: refused", x.street(1, 50, 5, 100), false);
        DUE.is("promise 2: houses stay then", x.count(11), 0);
        DUE.is("promise 2: lamps stay then", x.count(31), 0);
    }

    // promise 3

    private static void cartNumbers() {
        NightCarts x = new NightCarts();
        for (int k : new int[] {-1, 5, 6, 32, FAR[0], FAR[1], FAR[2], FAR[3]}) {
            DUE.is("promise 3: no such cart " + k, x.cart(k, 1), false);
        }
        for (int room : new int[] {0, -1, 100, 256, FAR[0], FAR[1], FAR[2], FAR[3]}) {
            DUE.is("promise 3: no such room " + room, x.cart(2, room), false);
        }
        DUE.is("promise 3: none is told", x.count(4), 0);
        for (int k = 0; k < 5; k++) {
            DUE.is("promise 3: cart " + k, x.cart(k, k % 2 == 0 ? 1 : 99), true);
            DUE.is("promise 3: told ones", x.count(4), (2 << k) - 1);
            DUE.is("promise 3: its room", x.count(90 + k), k % 2 == 0 ? 1 : 99);
        }
    }

    private static void cartAnew() {
        NightCarts x = Due.city(1);
        x.cart(0, 5);
        Due.plan(x, 0, "+99");
        DUE.is("room for five", x.tried(30), 5);
        DUE.is("promise 3: in place of the one before", x.cart(0, 7), true);
        DUE.is("promise 3: its plan stays", x.tried(30), 7);
        DUE.is("promise 3: refused", x.cart(0, 0), false);
        DUE.is("promise 3: it stays then", x.tried(30), 7);
    }

    // promise 4

    private static void pourYards() {
        NightCarts x = Due.city(1);
        for (int yards : new int[] {-1, 1000, FAR[0], FAR[1], FAR[2], FAR[3]}) {
            DUE.is("promise 4: no such yards " + yards, x.pour(0, yards), -1);
            DUE.is("promise 4: depth stays", x.count(70), 0);
        }
        DUE.is("promise 4: 0 yards", x.pour(0, 0), 0);
        DUE.is("promise 4: 1 yard", x.pour(0, 1), 1);
        DUE.is("promise 4: 998 yards", x.pour(0, 998), 999);
        NightCarts y = Due.city(1);
        DUE.is("promise 4: 999 yards", y.pour(0, 999), 999);
    }

    private static void pourAtMost999() {
        NightCarts x = Due.city(2);
        x.pour(0, 500);
        DUE.is("promise 4: 999 in all", x.pour(0, 499), 999);
        DUE.is("promise 4: 1 more", x.pour(0, 1), 999);
        DUE.is("promise 4: 999 more", x.pour(0, 999), 999);
        DUE.is("promise 4: 0 more", x.pour(0, 0), 999);
        x.pour(1, 500);
        DUE.is("promise 4: 1000 are 999", x.pour(1, 500), 999);
        DUE.is("promise 29: depth", x.count(71), 999);
    }

    private static void pourIntoTold() {
        NightCarts x = Due.city(13);
        for (int i : new int[] {-1, 13, 14, FAR[0], FAR[3]}) {
            DUE.is("promise 4: no such street " + i, x.pour(i, 1), -1);
        }
        x.street(13, 0, 0, 0);
        DUE.is("promise 4: it is told now", x.pour(13, 1), 1);
        DUE.is("no other is deeper", x.keep(), 1);
    }

    // promise 9

    private static void nightsNumbers() {
        NightCarts x = Due.city(1);
        for (int n : new int[] {0, -1, 21, 100, FAR[0], FAR[1], FAR[2], FAR[3]}) {
            x.pour(0, 1);
            DUE.is("promise 9: no such n: nights(" + n + ")", x.nights(n), -1);
            DUE.is("promise 9: none goes by", x.count(0), 0);
        }
        DUE.is("promise 9: nothing is swept", x.count(70), 8);
        DUE.is("promise 9: nights(1)", x.nights(1), 100);
        DUE.is("promise 9: one more", x.count(0), 1);
        DUE.is("promise 9: nights(20)", x.nights(20), 0);
        DUE.is("promise 9: twenty more", x.count(0), 21);
    }

    /** Fourteen streets of 99 houses and 999 yards, each filled again by carts in the nights behind. */
    private static void nightsFullest() {
        NightCarts x = new NightCarts();
        for (int i = 0; i < 14; i++) {
            x.street(i, 99, 0, 0);
            x.pour(i, 999);
        }
        DUE.is("promise 26: yards in all", x.keep(), 14 * 999);
        DUE.is("promise 9: all houses, all hours", x.nights(1), 14 * 99 * 10);
        DUE.is("promise 29: slept", x.count(1), 13860);
        DUE.is("promise 29: swept", x.count(2), 13986);
        Due.roads(x, "ab1;bc1;cd1;de1;ef1;fg1;gh1;hi1;ij1;jk1;kl1;lm1;mn1");
        x.cart(0, 99);
        Due.plan(x, 0, "+99,a1,b1,c1,d1,e1,f1,g1,h1,i1,j1,k1,l1,m1,n1");
        DUE.is("promise 9: twenty nights", x.nights(20), 20 * 13860);
        DUE.is("promise 29: slept in all", x.count(1), 21 * 13860);
        DUE.is("promise 29: swept in all", x.count(2), 13986 + 20 * 14);
    }

    private static void nightsOneByOne() {
        NightCarts x = Due.city(1);
        x.cart(0, 9);
        Due.plan(x, 0, "+9,a9");
        Due.law(x, "s9(n=1);s10(n=3);s1(n>1);s99(n=0)");
        DUE.is("promise 9: nights 0 to 4: three of them", x.nights(5), 300);
        DUE.is("promise 29: swept", x.count(2), 45);
        DUE.is("promise 9: night 5", x.nights(1), 100);
    }

    /** A city of a street, a cart in it, in night 9990: 501 of the 512 calls are used. */
    private static NightCarts inNight9990() {
        NightCarts x = Due.city(1);
        for (int call = 0; call < 499; call++) {
            x.nights(20);
        }
        x.nights(10);
        return x;
    }

    private static void nightsAsManyAsCan() {
        NightCarts x = inNight9990();
        DUE.is("the night", x.count(0), 9990);
        x.pour(0, 7);
        DUE.is("promise 9: nine of ten can go by", x.nights(10), 100);
        DUE.is("the night is 9999 at most", x.count(0), 9999);
        DUE.is("swept", x.count(2), 7);
        x.pour(0, 3);
        DUE.is("promise 9: none goes by", x.nights(20), 0);
        DUE.is("nothing is swept then", x.count(70), 3);
        DUE.is("slept stays", x.count(1), 100);
        DUE.is("swept stays", x.count(2), 7);
    }

    private static void nothingIn9999() {
        NightCarts x = inNight9990();
        x.cart(0, 9);
        Due.law(x, "s3(n=9999);w5(n=9999)");
        x.nights(9);
        DUE.is("promise 10: tried(0)", x.tried(0), -1);
        DUE.is("promise 17: strike(0)", x.strike(0), -1);
        DUE.is("promise 19: oneStop", x.oneStop(0, 1, 0), -1);
        DUE.is("promise 18: enough goes on, by n 9999", x.enough(0), 53);
        DUE.is("promise 14: sleepful, too", x.sleepful(9, 1, 1), 3);
        NightCarts y = inNight9990();
        y.nights(8);
        y.keep();
        y.nights(1);
        DUE.is("promise 10: in 9999", y.tried(0), -1);
        DUE.is("promise 27: undone", y.undo(), true);
        DUE.is("promise 10: in 9998", y.tried(0), 0);
        DUE.is("promise 17: in 9998", y.strike(600), 0);
        DUE.is("promise 9: once more", y.nights(20), 0);
        DUE.is("the last night", y.count(0), 9999);
    }

    // a night

    private static void startsEmptyAtThePit() {
        NightCarts x = Due.city(3);
        x.cart(0, 99);
        Due.roads(x, "ab10;bc10");
        Due.plan(x, 0, "c5,b5");
        DUE.is("it starts empty", x.tried(4), 0);
        DUE.is("it comes to both", x.tried(5), 2);
        DUE.is("from the pit on", x.tried(40), 30);
        Due.plan(x, 0, "+5");
        DUE.is("it is there in minute 0", x.tried(40), 0);
        x.nights(1);
        DUE.is("empty again in the next night", x.tried(30), 5);
        Due.plan(x, 0, "c0,+5");
        DUE.is("it goes to the pit for that", x.tried(40), 40);
    }

    private static void takesAsFarAsRoom() {
        NightCarts x = Due.city(1);
        Due.law(x, "u1(1=1)");
        for (int room : new int[] {1, 50, 98, 99}) {
            x.cart(0, room);
            Due.plan(x, 0, "+99,+1,+0");
            DUE.is("no more than room " + room, x.tried(30), room);
            DUE.is("no minutes for what it has no room for", x.tried(40), room);
            Due.plan(x, 0, "+00,+0");
            DUE.is("none is taken on", x.tried(30), 0);
        }
        x.cart(0, 10);
        Due.plan(x, 0, "+9,+9,+0");
        DUE.is("one of nine finds room", x.tried(30), 10);
        DUE.is("ten minutes for ten yards", x.tried(40), 10);
        Due.plan(x, 0, "+9,a4,+9,+0");
        DUE.is("room again for five", x.tried(30), 10);
        DUE.is("minutes for 9, 4 and 5", x.tried(40), 18);
    }

    private static void leavesAsFarAsItHas() {
        NightCarts x = Due.city(2);
        x.cart(0, 99);
        Due.roads(x, "ab1");
        Due.law(x, "u1(1=1)");
        Due.plan(x, 0, "+5,b6,b0");
        DUE.is("five of six", x.tried(11), 5);
        DUE.is("minutes for five", x.tried(40), 5 + 1 + 5);
        DUE.is("none is left on it", x.tried(30), 0);
        Due.plan(x, 0, "+5,b5,b1,b99");
        DUE.is("nothing more", x.tried(11), 5);
        DUE.is("yards left", x.tried(4), 5);
        DUE.is("stops, the empty ones too", x.tried(5), 4);
        Due.plan(x, 0, "+5,b4");
        DUE.is("one stays on it", x.tried(30), 1);
        Due.plan(x, 0, "b99");
        DUE.is("an empty cart leaves none", x.tried(11), 0);
        DUE.is("an empty cart comes, too", x.tried(5), 1);
    }

    private static void depthAtMost999() {
        NightCarts x = Due.city(2);
        x.cart(0, 99);
        Due.roads(x, "ab1");
        Due.law(x, "u1(1=1)");
        Due.plan(x, 0, "+9,b9,b0");
        x.pour(1, 990);
        DUE.is("just 999", x.tried(11), 999);
        DUE.is("left", x.tried(4), 9);
        x.pour(1, 1);
        DUE.is("one is lost", x.tried(11), 999);
        DUE.is("left, lost ones too", x.tried(4), 9);
        DUE.is("swept without the lost one", x.tried(1), 999);
        DUE.is("the lost one is not on the cart", x.tried(30), 0);
        x.pour(1, 8);
        DUE.is("all are lost", x.tried(11), 999);
        DUE.is("minutes for lost ones, too", x.tried(40), 9 + 1 + 9);
    }

    private static void passedOverWithoutMinutes() {
        NightCarts x = Due.city(4);
        x.cart(0, 99);
        Due.roads(x, "ab10;cd10");
        Due.law(x, "u1(1=1)");
        Due.plan(x, 0, "c9,+5,d2,b3,c9,a1");
        DUE.is("stops", x.tried(5), 3);
        DUE.is("minutes as without them", x.tried(40), 5 + 10 + 3 + 10);
        DUE.is("left", x.tried(4), 4);
        DUE.is("depth there", x.tried(12), 0);
        Due.plan(x, 0, "c1,d1");
        DUE.is("all are passed over", x.tried(5), 0);
        DUE.is("it does none", x.tried(40), -2);
    }

    private static void untoldStreetIsPassedOver() {
        NightCarts x = Due.city(2);
        x.cart(0, 99);
        Due.roads(x, "ab10");
        Due.plan(x, 0, "+5,n1,b1,c1");
        DUE.is("stops", x.tried(5), 2);
        DUE.is("the last one that it does", x.tried(40), 10);
        x.street(13, 9, 9, 9);
        DUE.is("told, yet no road", x.tried(5), 2);
        Due.roads(x, "ab10;an20");
        DUE.is("told, and a road", x.tried(5), 3);
        DUE.is("minutes over it", x.tried(40), 50);
    }

    private static void untoldPitPassesAllOver() {
        NightCarts x = new NightCarts();
        x.street(1, 10, 0, 0);
        x.street(2, 10, 0, 0);
        Due.roads(x, "bc1");
        x.cart(0, 9);
        Due.plan(x, 0, "+9,b1,a1,c1,+1");
        DUE.is("no stops", x.tried(5), 0);
        DUE.is("nothing is taken on", x.tried(30), 0);
        DUE.is("it does none", x.tried(40), -2);
        x.pour(1, 1);
        DUE.is("streets sleep all the same", x.tried(0), 100);
        DUE.is("a strike changes nothing", x.strike(9), 100);
        DUE.is("promise 19: by none of them more", x.oneStop(0, 9, 1), 100);
        DUE.is("promise 19: the lowest told one", x.oneStop(0, 9, 0), 1);
    }

    private static void minutesForEachYard() {
        NightCarts x = Due.city(2);
        x.cart(0, 99);
        Due.roads(x, "ab1");
        Due.law(x, "u9(i=1);u2(i=0)");
        Due.plan(x, 0, "+3,b2,a1");
        DUE.is("2 for each of 3, a minute, 9 for each of 2, a minute", x.tried(40), 6 + 1 + 18 + 1);
        Due.plan(x, 0, "+0,b0,a0");
        DUE.is("none for no yards", x.tried(40), 2);
        Due.law(x, "u0(1=1)");
        Due.plan(x, 0, "+99,b99,a0");
        DUE.is("none for yards by u 0", x.tried(40), 2);
    }

    private static void uAskedAheadOfThat() {
        NightCarts x = Due.city(1);
        x.cart(0, 99);
        Due.law(x, "u1(d=0);u5(d=3);u7(1=1)");
        Due.plan(x, 0, "+1,+2,a3,a0,+1,+0");
        DUE.is("u by depth 0 for 1, 2 and 3, by depth 3 for 1", x.tried(40), 1 + 2 + 3 + 5);
        NightCarts y = Due.city(1);
        y.cart(0, 99);
        y.pour(0, 3);
        Due.law(y, "c1(r=0);u9(d=3);u1(d=2)");
        Due.plan(y, 0, "+7,+1,+0");
        DUE.is("asked then: behind an hour's end depth is 2", y.tried(40), 63 + 1);
    }

    private static void lastMinuteOfTheNight() {
        NightCarts x = Due.city(8);
        x.cart(0, 99);
        Due.roads(x, "ab99;bc99;cd99;de99;ef99;fg99;gh5");
        Due.plan(x, 0, "+1,h1");
        DUE.is("in minute 599", x.tried(40), 599);
        DUE.is("it sleeps an hour there", x.tried(0), 80);
        DUE.is("stops", x.tried(5), 2);
        Due.roads(x, "ab99;bc99;cd99;de99;ef99;fg99;gh6");
        DUE.is("in minute 600", x.tried(40), -2);
        DUE.is("nothing is left there", x.tried(4), 0);
        DUE.is("stops", x.tried(5), 1);
        DUE.is("it has it still", x.tried(30), 1);
        Due.roads(x, "ab99;bc99;cd99;de99;ef99;fg99;gh5");
        Due.law(x, "u1(i=7)");
        Due.plan(x, 0, "+2,h1,h1");
        DUE.is("the next one would be in 600", x.tried(40), -2);
        DUE.is("one is left", x.tried(17), 1);
        Due.law(x, "u0(i=7)");
        DUE.is("the next one is in 599, too", x.tried(40), 599);
        DUE.is("both are left", x.tried(17), 2);
    }

    private static void firstHourEnds() {
        NightCarts x = Due.city(2);
        x.cart(0, 9);
        Due.plan(x, 0, "+1,b1");
        for (int minutes : new int[] {1, 59}) {
            Due.roads(x, "ab" + minutes);
            DUE.is("there within 60 minutes", x.tried(0), 200);
        }
        for (int minutes : new int[] {60, 99}) {
            Due.roads(x, "ab" + minutes);
            DUE.is("behind the first 60", x.tried(0), 180);
        }
    }

    private static void cartsByNumbers() {
        NightCarts x = Due.city(2);
        Due.roads(x, "ab9");
        for (int k = 4; k >= 0; k--) {
            x.cart(k, 50);
            Due.plan(x, k, "+" + (k + 1) + ",b" + (k + 1) + ",b0");
        }
        // where cart k comes the carts below it have left: 0, 1, 3, 6, 10 yards
        Due.law(x, "u1(i=1&d=0);u2(i=1&d=1);u3(i=1&d=3);u4(i=1&d=6);u5(i=1&d=10)");
        for (int k = 0; k < 5; k++) {
            DUE.is("cart " + k + " in its turn", x.tried(40 + k), 9 + (k + 1) * (k + 1));
        }
    }

    private static void sameMinuteWhatComesNext() {
        NightCarts x = Due.city(1);
        x.cart(0, 50);
        x.cart(1, 50);
        Due.plan(x, 0, "+5,a2,+1,a4");
        Due.plan(x, 1, "+1,+0");
        Due.law(x, "u3(k=1&d=6);u7(k=1&d=0);u8(k=1)");
        DUE.is("cart 0 does all it can ahead of cart 1", x.tried(41), 3);
        Due.plan(x, 0, "+5,a2,a3");
        Due.law(x, "u1(k=0&i=0&d=0);u3(k=1&d=0);u9(k=1)");
        DUE.is("minutes go by: cart 1 comes first", x.tried(41), 3);
        DUE.is("cart 0 goes on then", x.tried(40), 7);
    }

    private static void eightyStopsInAMinute() {
        NightCarts x = Due.city(1);
        for (int k = 0; k < 5; k++) {
            x.cart(k, 1);
            Due.plan(x, k, Due.many(8, "+1,a1", ","));
        }
        DUE.is("all stops of all carts", x.tried(5), 80);
        DUE.is("a yard at each second one", x.tried(10), 40);
        Due.law(x, "s40(1=1)");
        DUE.is("all in minute 0", x.tried(0), 100);
        DUE.is("all in minute 59", x.strike(59), 100);
        DUE.is("all in minute 599", x.strike(599), 10);
    }

    private static void hourEndsWasteFirst() {
        NightCarts x = Due.city(1);
        x.pour(0, 100);
        Due.law(x, "w60(d=100);c30(d=40);c99(1=1);s10(d=10);s99(1=1)");
        DUE.is("w first", x.tried(2), 60);
        DUE.is("then c, asked then: 30, in hour 1 the rest", x.tried(3), 30 + 10);
        DUE.is("s is asked then: it sleeps in hour 0 alone", x.tried(0), 10);
    }

    private static void hourEndsNotBelowZero() {
        NightCarts x = Due.city(1);
        x.pour(0, 5);
        Due.law(x, "w3(1=1);c3(1=1)");
        DUE.is("wasted", x.tried(2), 3);
        DUE.is("carried off: what is there", x.tried(3), 2);
        DUE.is("0 at least", x.tried(10), 0);
        DUE.is("nobody sleeps", x.tried(0), 0);
        Due.law(x, "w5(1=1);c1(1=1)");
        DUE.is("all is wasted", x.tried(2), 5);
        DUE.is("nothing is carried off", x.tried(3), 0);
        Due.law(x, "w4(1=1)");
        DUE.is("one yard over: an hour", x.tried(0), 10);
        Due.law(x, "w6(1=1)");
        DUE.is("wasted: what is there", x.tried(2), 5);
    }

    private static void sleepsBySOrMore() {
        NightCarts x = Due.city(1);
        x.pour(0, 5);
        int[] worths = {0, 1, 4, 5, 6, 999};
        int[] wants = {100, 100, 100, 100, 0, 0};
        for (int p = 0; p < worths.length; p++) {
            Due.law(x, "s" + worths[p] + "(1=1)");
            DUE.is("depth 5, s " + worths[p], x.tried(0), wants[p]);
        }
        NightCarts y = Due.city(1);
        Due.law(y, "s0(1=1)");
        DUE.is("depth 0 is not above 0", y.tried(0), 0);
        y.pour(0, 1);
        DUE.is("depth 1 is", y.tried(0), 100);
        y.street(0, 0, 0, 0);
        DUE.is("no houses sleep no hours", y.tried(0), 0);
        y.street(0, 99, 0, 0);
        DUE.is("99 houses", y.tried(0), 990);
        y.pour(0, 998);
        Due.law(y, "s999(1=1)");
        DUE.is("999 of 999", y.tried(0), 990);
    }

    private static void streetsByNumbers() {
        NightCarts x = Due.city(14);
        for (int i = 0; i < 14; i++) {
            x.pour(i, 20 + i);
        }
        Due.law(x, "w1(i=0&r=0);w2(i=13&r=9);c3(i=13&d=31)");
        DUE.is("each street by itself", x.tried(2), 3);
        DUE.is("each street by itself", x.tried(3), 3);
        DUE.is("street 0", x.tried(10), 19);
        DUE.is("street 13", x.tried(23), 28);
        DUE.is("street 12", x.tried(22), 32);
    }

    private static void sweptAtTheEnd() {
        NightCarts x = Due.city(3);
        x.cart(0, 9);
        Due.plan(x, 0, "+9,a4");
        x.pour(1, 8);
        x.pour(2, 999);
        DUE.is("swept, the pit's too, not what a cart has", x.tried(1), 4 + 8 + 999);
        x.nights(1);
        DUE.is("promise 29: swept", x.count(2), 1011);
        for (int i = 0; i < 3; i++) {
            DUE.is("0 then", x.count(70 + i), 0);
        }
        DUE.is("promise 29: one night more", x.count(0), 1);
    }

    private static void lastStreetAlone() {
        NightCarts x = new NightCarts();
        x.street(13, 7, 0, 0);
        x.pour(13, 5);
        Due.law(x, "c1(r=9)");
        DUE.is("street 13 sleeps", x.tried(0), 70);
        DUE.is("street 13 is swept", x.tried(1), 4);
        DUE.is("promise 18: street 13", x.enough(13), 0);
        x.nights(1);
        DUE.is("promise 29: slept", x.count(1), 70);
        DUE.is("promise 29: depth", x.count(83), 0);
        DUE.is("promise 18: street 13", x.enough(13), 2);
    }

    private static void untoldCartStays() {
        NightCarts x = Due.city(2);
        for (int k = 0; k < 5; k++) {
            Due.plan(x, k, "+9,a9");
        }
        DUE.is("no cart is told: no stops", x.tried(5), 0);
        x.cart(3, 9);
        DUE.is("only the told one starts", x.tried(5), 2);
        DUE.is("only the told one starts", x.tried(4), 9);
        DUE.is("only the told one starts", x.strike(0), 100);
    }

    // promise 10

    private static void triedNumbers() {
        NightCarts x = Due.city(14);
        for (int k = 0; k < 5; k++) {
            x.cart(k, 9);
        }
        for (int what = 0; what <= 5; what++) {
            DUE.is("promise 10: tried(" + what + ")", x.tried(what), 0);
        }
        for (int i = 0; i < 14; i++) {
            x.pour(i, i + 1);
            DUE.is("promise 10: depth of " + i, x.tried(10 + i), i + 1);
        }
        for (int k = 0; k < 5; k++) {
            DUE.is("promise 10: cart " + k + " has", x.tried(30 + k), 0);
            DUE.is("promise 10: cart " + k + " does none", x.tried(40 + k), -2);
        }
        int[] none = {-1, 6, 9, 24, 29, 35, 39, 45, 50, 100, FAR[0], FAR[1], FAR[2], FAR[3]};
        for (int what : none) {
            DUE.is("promise 10: no such what: tried(" + what + ")", x.tried(what), -1);
        }
        NightCarts y = Due.city(1);
        y.cart(1, 9);
        for (int what : new int[] {11, 23, 30, 32, 34, 40, 42, 44}) {
            DUE.is("promise 10: not told: tried(" + what + ")", y.tried(what), -1);
        }
    }

    private static void triedChangesNothing() {
        NightCarts x = Due.city(2);
        x.cart(0, 9);
        Due.roads(x, "ab1");
        Due.plan(x, 0, "+9,b9");
        x.pour(0, 5);
        DUE.is("promise 10: tried", x.tried(0), 300);
        DUE.is("promise 10: tried again", x.tried(0), 300);
        DUE.is("nothing is changed: the night", x.count(0), 0);
        DUE.is("nothing is changed: slept", x.count(1), 0);
        DUE.is("nothing is changed: swept", x.count(2), 0);
        DUE.is("nothing is changed: depth", x.count(70), 5);
        DUE.is("nothing is changed: depth", x.count(71), 0);
    }

    private static void triedLastStop() {
        NightCarts x = Due.city(2);
        x.cart(0, 9);
        Due.roads(x, "ab99");
        Due.plan(x, 0, "b0,a0,b0,a0,b0,a0");
        DUE.is("the last one in 594", x.tried(40), 594);
        Due.plan(x, 0, "b0,a0,b0,a0,b0,a0,b0");
        DUE.is("the last one not by 599", x.tried(40), -2);
        DUE.is("the others are done", x.tried(5), 6);
        Due.plan(x, 0, "b0,a0,b0,a0,b0,a0,n0");
        DUE.is("one that is passed over is not the last", x.tried(40), 594);
        Due.plan(x, 0, "n0");
        DUE.is("it does none", x.tried(40), -2);
    }

    // promise 17

    private static void strikeNumbers() {
        NightCarts x = Due.city(2);
        x.cart(0, 9);
        Due.plan(x, 0, "+1,a1");
        for (int minute : new int[] {-1, 601, 1000, FAR[0], FAR[1], FAR[2], FAR[3]}) {
            DUE.is("promise 17: no such minute " + minute, x.strike(minute), -1);
        }
        int[] minutes = {0, 1, 59, 60, 539, 540, 599, 600};
        int[] wants = {100, 100, 100, 90, 20, 10, 10, 0};
        for (int p = 0; p < minutes.length; p++) {
            DUE.is("promise 17: strike(" + minutes[p] + ")", x.strike(minutes[p]), wants[p]);
        }
        DUE.is("strike(0) is a night as it is", x.strike(0), x.tried(0));
    }

    private static void strikeAtTheEnd() {
        NightCarts x = Due.city(2);
        x.cart(0, 9);
        x.cart(1, 9);
        Due.roads(x, "ab59");
        Due.plan(x, 0, "+1,b1");
        Due.plan(x, 1, "+1,b1");
        Due.law(x, "s2(1=1)");
        DUE.is("all carts start in 540", x.strike(540), 20);
        DUE.is("all carts start in 541", x.strike(541), 0);
        x.pour(0, 5);
        DUE.is("what is there sleeps all the same", x.strike(600), 100);
        DUE.is("nothing is changed", x.count(70), 5);
        DUE.is("nothing is changed", x.count(0), 0);
    }

    // promise 18

    private static void enoughNumbers() {
        NightCarts x = Due.city(13);
        for (int i : new int[] {-1, 13, 14, FAR[0], FAR[1], FAR[2], FAR[3]}) {
            DUE.is("promise 18: no such street " + i, x.enough(i), -1);
        }
        DUE.is("promise 18: street 0", x.enough(0), 1);
        DUE.is("promise 18: street 12", x.enough(12), 1);
        x.street(5, 0, 0, 0);
        DUE.is("promise 18: a street without houses", x.enough(5), 1);
    }

    private static void enoughAtItsBounds() {
        NightCarts x = Due.city(1);
        Due.law(x, "w99(1=1);s9(1=1)");
        DUE.is("promise 18: 999", x.enough(0), 999);
        Due.law(x, "w99(1=1);s10(1=1)");
        DUE.is("promise 18: 1000 would be too many", x.enough(0), -2);
        Due.law(x, "w99(1=1);s9(1=1)");
        x.pour(0, 500);
        DUE.is("promise 18: 999 in all", x.enough(0), 499);
        x.pour(0, 499);
        DUE.is("promise 18: none needed", x.enough(0), 0);
        Due.law(x, "w99(1=1);s10(1=1)");
        DUE.is("promise 18: full, and not enough", x.enough(0), -2);
        Due.law(x, "s9(r<9);c990(r=9)");
        DUE.is("promise 18: the last hour counts", x.enough(0), 0);
        Due.law(x, "s9(r<9);c999(r=9)");
        DUE.is("promise 18: the last hour counts", x.enough(0), -2);
        NightCarts y = Due.city(1);
        Due.law(y, "s999(r=0&d<7);w900(d>6&r=0)");
        DUE.is("promise 18: s is asked by what w leaves", y.enough(0), 907);
        Due.law(y, "w999(d>6)");
        DUE.is("promise 18: the fewest, though more are too many", y.enough(0), 1);
        y.pour(0, 7);
        DUE.is("promise 18: there are too many already", y.enough(0), -2);
    }

    private static void enoughThisNightAlone() {
        NightCarts x = Due.city(1);
        x.cart(0, 99);
        Due.plan(x, 0, "+99,a99");
        Due.law(x, "s50(n=0);s70(n=1)");
        DUE.is("promise 18: no cart coming", x.enough(0), 50);
        DUE.is("promise 18: nothing is poured", x.count(70), 0);
        x.nights(1);
        DUE.is("promise 18: this night", x.enough(0), 70);
    }

    // promise 19

    private static void oneStopNumbers() {
        NightCarts x = Due.city(2);
        x.cart(0, 99);
        x.cart(4, 99);
        for (int k : new int[] {-1, 1, 5, FAR[0], FAR[1], FAR[2], FAR[3]}) {
            DUE.is("promise 19: no such cart " + k, x.oneStop(k, 1, 0), -1);
        }
        for (int yards : new int[] {0, -1, 100, FAR[0], FAR[1], FAR[2], FAR[3]}) {
            DUE.is("promise 19: no such yards " + yards, x.oneStop(0, yards, 0), -1);
        }
        for (int what : new int[] {-1, 2, 20, FAR[0], FAR[3]}) {
            DUE.is("promise 19: no such what " + what, x.oneStop(0, 1, what), -1);
        }
        DUE.is("promise 19: 1 yard", x.oneStop(0, 1, 1), 100);
        Due.law(x, "s99(1=1)");
        DUE.is("promise 19: 98 yards", x.oneStop(4, 98, 1), 0);
        DUE.is("promise 19: 99 yards", x.oneStop(4, 99, 1), 100);
        NightCarts y = new NightCarts();
        y.cart(0, 1);
        DUE.is("promise 19: no street is told", y.oneStop(0, 1, 0), -2);
        DUE.is("promise 19: no street is told", y.oneStop(0, 1, 1), -2);
        DUE.is("promise 19: no street is told, no such yards", y.oneStop(0, 0, 1), -1);
    }

    private static void oneStopAlone() {
        NightCarts x = Due.city(3);
        x.cart(0, 99);
        x.cart(1, 99);
        Due.roads(x, "ab10;ac10");
        Due.plan(x, 0, "+9,b9");
        Due.plan(x, 1, "+9,c9");
        DUE.is("promise 19: all others stay", x.oneStop(0, 5, 1), 300);
        DUE.is("promise 19: as does its own plan", x.oneStop(0, 5, 0), 2);
        x.pour(2, 1);
        DUE.is("promise 19: most hours in all", x.oneStop(0, 5, 0), 1);
        DUE.is("promise 19: most hours in all", x.oneStop(0, 5, 1), 500);
        DUE.is("nothing is changed", x.count(72), 1);
        DUE.is("the plan is as before", x.count(100), 2);
        DUE.is("the plan is as before", x.tried(11), 9);
        Due.roads(x, "ab59;ac1");
        Due.law(x, "s1(1=1)");
        x.nights(1);
        Due.plan(x, 0, "c0,b0");
        DUE.is("promise 19: by those two stops alone", x.oneStop(0, 1, 1), 300);
        DUE.is("promise 19: by those two stops alone", x.oneStop(1, 1, 1), 300);
        Due.plan(x, 1, "b0,c0");
        DUE.is("promise 19: by those two stops alone", x.oneStop(1, 1, 1), 300);
    }

    private static void oneStopRoom() {
        NightCarts x = Due.city(2);
        Due.roads(x, "ab10");
        Due.law(x, "s10(1=1)");
        x.cart(0, 9);
        DUE.is("promise 19: room for nine of ten", x.oneStop(0, 10, 1), 0);
        x.cart(0, 10);
        DUE.is("promise 19: room for ten", x.oneStop(0, 10, 1), 200);
        DUE.is("promise 19: room for ten of 99", x.oneStop(0, 99, 1), 200);
        Due.law(x, "u1(k=0);s10(1=1)");
        Due.roads(x, "ab49");
        DUE.is("promise 19: ten minutes for taking on, in 59", x.oneStop(0, 10, 1), 200);
        Due.roads(x, "ab50");
        DUE.is("promise 19: in 60", x.oneStop(0, 10, 1), 180);
    }

    private static void oneStopInTheLast() {
        NightCarts x = Due.city(14);
        x.cart(4, 9);
        x.street(13, 99, 0, 0);
        Due.roads(x, "ab1;an1");
        DUE.is("promise 19: street 13", x.oneStop(4, 9, 0), 13);
        DUE.is("promise 19: street 13", x.oneStop(4, 9, 1), 990);
    }

    private static void oneStopOfLikeOnes() {
        NightCarts x = new NightCarts();
        x.cart(0, 9);
        x.street(0, 0, 0, 0);
        x.street(4, 7, 0, 0);
        x.street(9, 7, 0, 0);
        Due.roads(x, "aj1;ae1");
        DUE.is("promise 19: of like ones the lowest", x.oneStop(0, 1, 0), 4);
        Due.roads(x, "aj1");
        DUE.is("promise 19: one that it can't come to", x.oneStop(0, 1, 0), 9);
        Due.law(x, "s99(1=1)");
        DUE.is("promise 19: by none of them any", x.oneStop(0, 1, 0), 0);
        DUE.is("promise 19: by none of them any", x.oneStop(0, 1, 1), 0);
    }
}
