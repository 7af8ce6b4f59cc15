/** The edges of ways, choices and what is kept (promises 11 to 16, 20 to 29), a test for each sentence. */
public final class ChoiceEdgesTest {
    private static final Due DUE = new Due();
    private static final int[] FAR = {Integer.MIN_VALUE, Integer.MIN_VALUE + 1, -1000, 1 << 30, Integer.MAX_VALUE};

    public static void main(String[] args) {
        wayNumbers();
        wayNone();
        wayOverTheLast();
        wayLongest();
        roundNumbers();
        roundPlaces();
        roundCannotCome();
        roundLeastRow();
        roundOverOthers();
        shareNumbers();
        shareWhat();
        shareHoldsSoMany();
        shareGreatestLeast();
        shareLeastRow();
        shareOfTheLast();
        sleepfulNumbers();
        sleepfulYards();
        sleepfulAboveZero();
        sleepfulOfLikeOnes();
        sleepfulNobody();
        sleepfulAskedOnce();
        sleepfulOfTheLast();
        pitAtNumbers();
        pitAtMostOthers();
        pitAtOfLikeOnes();
        pitAtTheLast();
        cutNumbers();
        cutFirst();
        outNumbers();
        outLess();
        outOfTheLast();
        outOfLikeOnes();
        jobsNumbers();
        jobsNoSuchCartsOrPlace();
        jobsBounds();
        jobsLeastRow();
        loadNumbers();
        loadBounds();
        loadJustSoMany();
        bridesNumbers();
        bridesStreets();
        bridesMissing();
        bridesLeastRow();
        thievesNumbers();
        thievesBounds();
        thievesSets();
        latestNumbers();
        latestStreets();
        latestMinutes();
        latestWithoutStaying();
        keepYards();
        undoWhatWasKept();
        undoTheLast();
        checkNumbers();
        checkPlaces();
        countNumbers();
        countOfTold();
        DUE.end();
    }

    // promise 11

    private static void wayNumbers() {
        NightCarts x = Due.city(13);
        for (int i : new int[] {-1, 13, 14, 32, FAR[0], FAR[1], FAR[2], FAR[3], FAR[4]}) {
            DUE.is("promise 11: no such street " + i, x.way(i, 0), -1);
            DUE.is("promise 11: no such street " + i, x.way(0, i), -1);
            DUE.is("promise 11: no such street " + i, x.way(i, i), -1);
        }
        DUE.is("promise 11: itself", x.way(0, 0), 0);
        DUE.is("promise 11: itself", x.way(12, 12), 0);
    }

    private static void wayNone() {
        NightCarts x = Due.city(4);
        DUE.is("promise 11: there is none, without roads", x.way(0, 1), -2);
        Due.roads(x, "ab1;cd1");
        DUE.is("promise 11: there is none", x.way(0, 2), -2);
        DUE.is("promise 11: there is none", x.way(3, 1), -2);
        Due.roads(x, "ab1;cd1;bd1");
        DUE.is("promise 11: there is one", x.way(0, 2), 3);
    }

    /** The lowest and the highest street: 0 and 13. */
    private static NightCarts bothEnds() {
        NightCarts x = new NightCarts();
        x.street(0, 10, 1, 5);
        x.street(13, 20, 2, 7);
        return x;
    }

    private static void wayOverTheLast() {
        NightCarts x = Due.city(14);
        Due.roads(x, "an1;nb2");
        DUE.is("promise 11: over street 13", x.way(0, 1), 3);
        Due.roads(x, "ba1;an2");
        DUE.is("promise 11: over street 0", x.way(13, 1), 3);
    }

    private static void wayLongest() {
        NightCarts x = Due.city(14);
        StringBuilder line = new StringBuilder();
        for (int i = 0; i < 13; i++) {
            line.append(i == 0 ? "" : ";").append((char) ('a' + i)).append((char) ('b' + i)).append(99);
        }
        Due.roads(x, line.toString());
        for (int i = 0; i < 14; i++) {
            DUE.is("promise 11: from 0 to " + i, x.way(0, i), 99 * i);
            DUE.is("promise 11: from 13 to " + i, x.way(13, i), 99 * (13 - i));
        }
        Due.roads(x, "ab1;bc1;ac2");
        DUE.is("promise 11: two ways alike", x.way(0, 2), 2);
        Due.roads(x, "ab1;bc1;ac3");
        DUE.is("promise 11: the road is longer", x.way(0, 2), 2);
        Due.roads(x, "ab1;bc1;ac1");
        DUE.is("promise 11: the road is shorter", x.way(2, 0), 1);
    }

    // promise 12

    private static NightCarts ring() {
        NightCarts x = Due.city(9);
        Due.roads(x, "ab1;bc1;cd1;de1;ef1;fg1;gh1;ha1");
        return x;
    }

    private static void roundNumbers() {
        NightCarts x = ring();
        for (int i : new int[] {-1, 9, 14, FAR[0], FAR[2], FAR[4]}) {
            DUE.is("promise 12: no such street " + i, x.round(i, 2, 20), -1);
        }
        int[] none = {0, 1, 3, 512, 1 << 14, 2 | 512, 2 | 1 << 14, 2 | 1 << 31, -1, FAR[0], FAR[4]};
        for (int others : none) {
            DUE.is("promise 12: no such others " + others, x.round(0, others, 20), -1);
        }
        DUE.is("promise 12: one other", x.round(0, 2, 20), 2);
        DUE.is("promise 12: seven others", x.round(0, 254, 20), 8);
        DUE.is("promise 12: eight others", x.round(0, 510, 20), -1);
    }

    private static void roundPlaces() {
        NightCarts x = ring();
        for (int place = 0; place < 7; place++) {
            DUE.is("promise 12: place " + place, x.round(0, 254, place), place + 1);
        }
        for (int place : new int[] {-1, 7, 8, 19, 21, FAR[0], FAR[2], FAR[4]}) {
            DUE.is("promise 12: no place " + place + " of seven", x.round(0, 254, place), -1);
        }
        DUE.is("promise 12: place 0 of one", x.round(0, 4, 0), 2);
        DUE.is("promise 12: no place 1 of one", x.round(0, 4, 1), -1);
    }

    private static void roundCannotCome() {
        NightCarts x = ring();
        DUE.is("promise 12: street 8 can't be come to", x.round(0, 256, 20), -2);
        DUE.is("promise 12: street 8 can't be come to", x.round(0, 258, 1), -2);
        DUE.is("promise 12: nor can others from it", x.round(8, 1, 20), -2);
        DUE.is("promise 12: no such place is NONE all the same", x.round(0, 256, 1), -1);
        Due.roads(x, "ab1;cd1");
        DUE.is("promise 12: two parts", x.round(0, 2 | 4 | 8, 20), -2);
        DUE.is("promise 12: within a part", x.round(2, 8, 20), 2);
    }

    private static void roundLeastRow() {
        NightCarts x = Due.city(4);
        Due.roads(x, "ab5;bc5;cd5;da5;ac5;bd5");
        for (int place = 0; place < 3; place++) {
            DUE.is("promise 12: all are alike", x.round(0, 14, place), place + 1);
        }
        int[] fromTwo = {0, 1, 3};
        for (int place = 0; place < 3; place++) {
            DUE.is("promise 12: all are alike, from 2", x.round(2, 11, place), fromTwo[place]);
        }
        Due.roads(x, "ac1;cb1;bd1;da1");
        int[] around = {2, 1, 3};
        for (int place = 0; place < 3; place++) {
            DUE.is("promise 12: of both ways around", x.round(0, 14, place), around[place]);
        }
    }

    private static void roundOverOthers() {
        NightCarts x = Due.city(4);
        Due.roads(x, "ab1;ac2;ad3");
        DUE.is("promise 12: over the middle each time", x.round(0, 14, 20), 12);
        DUE.is("promise 12: from an end", x.round(1, 12, 20), 2 * (1 + 2 + 3));
        DUE.is("promise 12: the longest roads", longestRound(), 2 * 99 * 13);
    }

    private static int longestRound() {
        NightCarts x = Due.city(14);
        Due.roads(x, "ab99;bc99;cd99;de99;ef99;fg99;gh99;hi99;ij99;jk99;kl99;lm99;mn99");
        return x.round(0, 1 << 13, 20);
    }

    // promise 13

    private static void shareNumbers() {
        NightCarts x = Due.city(7);
        for (int yards : new int[] {-1, 601, FAR[0], FAR[2], FAR[4]}) {
            DUE.is("promise 13: no such yards " + yards, x.share(yards, 1, 20), -1);
        }
        for (int streets : new int[] {0, 127, 128, 1 | 128, 1 << 14, 1 | 1 << 31, -1, FAR[0], FAR[4]}) {
            DUE.is("promise 13: no such streets " + streets, x.share(1, streets, 20), -1);
        }
        DUE.is("promise 13: 0 yards", x.share(0, 1, 20), 0);
        DUE.is("promise 13: 600 yards", x.share(600, 1, 20), 600);
        DUE.is("promise 13: one street", x.share(600, 64, 6), 600);
        DUE.is("promise 13: six streets", x.share(600, 63, 20), 100);
        DUE.is("nothing is left there", x.keep(), 0);
    }

    private static void shareWhat() {
        NightCarts x = Due.city(7);
        for (int what : new int[] {-1, 0, 3, 7, 13, 14, 19, 21, 32, 33, FAR[0], FAR[2], FAR[4]}) {
            DUE.is("promise 13: not of them: " + what, x.share(4, 6, what), -1);
        }
        DUE.is("promise 13: street 1", x.share(4, 6, 1), 2);
        DUE.is("promise 13: street 2", x.share(4, 6, 2), 2);
    }

    private static void shareHoldsSoMany() {
        NightCarts x = Due.city(3);
        x.pour(0, 990);
        x.pour(1, 995);
        DUE.is("promise 13: thirteen fit in", x.share(13, 3, 20), 999);
        DUE.is("promise 13: nine for the first", x.share(13, 3, 0), 9);
        DUE.is("promise 13: fourteen don't", x.share(14, 3, 20), -2);
        DUE.is("promise 13: fourteen don't", x.share(14, 3, 0), -2);
        DUE.is("promise 13: no such what is NONE all the same", x.share(14, 3, 2), -1);
        x.pour(0, 9);
        x.pour(1, 4);
        DUE.is("promise 13: full ones hold none", x.share(0, 3, 20), 999);
        DUE.is("promise 13: full ones hold none", x.share(1, 3, 20), -2);
        DUE.is("promise 13: the third holds it", x.share(600, 7, 2), 600);
    }

    private static void shareGreatestLeast() {
        NightCarts x = Due.city(3);
        x.pour(0, 10);
        x.pour(1, 7);
        x.pour(2, 5);
        int[] yards = {0, 1, 2, 3, 4, 5, 6, 7, 8, 9, 11};
        int[] wants = {5, 6, 7, 7, 8, 8, 9, 9, 10, 10, 11};
        for (int p = 0; p < yards.length; p++) {
            DUE.is("promise 13: the least of " + yards[p], x.share(yards[p], 7, 20), wants[p]);
        }
    }

    private static void shareLeastRow() {
        NightCarts x = Due.city(3);
        int[][] wants = {{0, 0, 0}, {0, 0, 1}, {0, 0, 2}, {1, 1, 1}, {1, 1, 2}, {1, 1, 3}, {2, 2, 2}};
        for (int yards = 0; yards < wants.length; yards++) {
            for (int i = 0; i < 3; i++) {
                DUE.is("promise 13: " + yards + " yards, street " + i, x.share(yards, 7, i), wants[yards][i]);
            }
        }
        x.pour(2, 998);
        int[] nearlyFull = {3, 3, 1};
        int[] full = {3, 4, 0};
        for (int i = 0; i < 3; i++) {
            DUE.is("promise 13: the last has room for one, street " + i, x.share(7, 7, i), nearlyFull[i]);
        }
        x.pour(2, 1);
        for (int i = 0; i < 3; i++) {
            DUE.is("promise 13: the last is full, street " + i, x.share(7, 7, i), full[i]);
        }
    }

    private static void shareOfTheLast() {
        NightCarts x = bothEnds();
        DUE.is("promise 13: streets 0 and 13", x.share(5, 1 | 1 << 13, 20), 2);
        DUE.is("promise 13: street 0", x.share(5, 1 | 1 << 13, 0), 2);
        DUE.is("promise 13: street 13", x.share(5, 1 | 1 << 13, 13), 3);
    }

    // promise 14

    private static void sleepfulNumbers() {
        NightCarts x = Due.city(9);
        for (int yards : new int[] {-1, 301, FAR[0], FAR[2], FAR[4]}) {
            for (int what = 0; what < 3; what++) {
                DUE.is("promise 14: no such yards " + yards, x.sleepful(yards, 1, what), -1);
            }
        }
        for (int streets : new int[] {0, 511, 512, 1 | 512, 1 << 14, 1 | 1 << 31, -1, FAR[0], FAR[4]}) {
            DUE.is("promise 14: no such streets " + streets, x.sleepful(1, streets, 0), -1);
        }
        for (int what : new int[] {-1, 3, 20, FAR[0], FAR[2], FAR[4]}) {
            DUE.is("promise 14: no such what " + what, x.sleepful(1, 1, what), -1);
        }
        DUE.is("promise 14: one street", x.sleepful(1, 256, 0), 90);
        DUE.is("promise 14: eight streets", x.sleepful(8, 255, 0), 360);
        DUE.is("promise 14: eight streets", x.sleepful(300, 255, 1), 8);
        DUE.is("promise 14: eight streets", x.sleepful(300, 255, 2), 255);
        DUE.is("nothing is left there", x.keep(), 0);
    }

    private static void sleepfulYards() {
        NightCarts x = Due.city(2);
        Due.law(x, "s300(i=0);s301(i=1)");
        DUE.is("promise 14: 300 are enough for 300", x.sleepful(300, 3, 0), 10);
        DUE.is("promise 14: 299 are not", x.sleepful(299, 3, 0), 0);
        DUE.is("promise 14: 299 are not", x.sleepful(299, 3, 1), 0);
        DUE.is("promise 14: 299 are not", x.sleepful(299, 3, 2), 0);
        x.pour(1, 1);
        DUE.is("promise 14: 300 for 301, one being there", x.sleepful(300, 3, 2), 2);
        x.pour(1, 300);
        DUE.is("promise 14: it can without a yard", x.sleepful(0, 3, 2), 2);
        DUE.is("promise 14: it is always among them", x.sleepful(300, 3, 2), 3);
        DUE.is("promise 14: all are for the other one", x.sleepful(300, 3, 1), 300);
    }

    private static void sleepfulAboveZero() {
        NightCarts x = Due.city(2);
        Due.law(x, "s0(1=1)");
        DUE.is("promise 14: depth 0 is not above 0", x.sleepful(0, 3, 0), 0);
        DUE.is("promise 14: a yard is", x.sleepful(1, 3, 0), 20);
        DUE.is("promise 14: two yards are for two", x.sleepful(9, 3, 1), 2);
        Due.law(x, "s999(1=1)");
        x.pour(0, 998);
        DUE.is("promise 14: the last of 999", x.sleepful(1, 3, 0), 10);
        DUE.is("promise 14: 699 would be too many", x.sleepful(300, 3, 0), 10);
    }

    private static void sleepfulOfLikeOnes() {
        NightCarts x = new NightCarts();
        for (int i = 0; i < 4; i++) {
            x.street(i, i == 3 ? 20 : 10, 0, 0);
        }
        Due.law(x, "s5(i=0);s3(i=1);s2(i=2);s5(i=3)");
        DUE.is("promise 14: 20 houses", x.sleepful(5, 15, 0), 20);
        DUE.is("promise 14: by five yards", x.sleepful(5, 15, 1), 5);
        DUE.is("promise 14: of like ones the least bits", x.sleepful(5, 15, 2), 6);
        Due.law(x, "s5(i=0);s3(i=1);s2(i=2);s4(i=3)");
        DUE.is("promise 14: of like ones by the fewest yards", x.sleepful(5, 15, 2), 8);
        x.street(0, 0, 0, 0);
        DUE.is("promise 14: no yards for no houses", x.sleepful(300, 15, 2), 14);
        x.pour(0, 5);
        DUE.is("promise 14: without a yard, though no houses", x.sleepful(300, 15, 2), 15);
        DUE.is("promise 14: without a yard, though no houses", x.sleepful(0, 15, 2), 1);
        x.street(1, 0, 0, 0);
        x.street(2, 0, 0, 0);
        x.pour(1, 3);
        x.pour(2, 2);
        DUE.is("promise 14: three without a yard, though no houses", x.sleepful(0, 15, 2), 7);
        DUE.is("promise 14: three of four", x.sleepful(4, 15, 2), 15);
    }

    private static void sleepfulNobody() {
        NightCarts x = Due.city(2);
        int[] first = {30, 0, 3};
        x.pour(0, 1);
        x.pour(1, 1);
        for (int what = 0; what < 3; what++) {
            DUE.is("promise 14: both can, what " + what, x.sleepful(0, 3, what), first[what]);
        }
        x.nights(1);
        for (int what = 0; what < 3; what++) {
            DUE.is("promise 14: nobody can now, what " + what, x.sleepful(0, 3, what), 0);
        }
    }

    private static void sleepfulAskedOnce() {
        NightCarts x = Due.city(1);
        Due.law(x, "s9(d=0&r=0&k=0&i=0);s1(1=1)");
        DUE.is("promise 14: by depth as it is", x.sleepful(300, 1, 1), 9);
        DUE.is("promise 14: by depth as it is", x.sleepful(8, 1, 0), 0);
        Due.law(x, "s9(r>0);s4(1=1)");
        DUE.is("promise 14: hour 0", x.sleepful(300, 1, 1), 4);
        Due.law(x, "s4(n=0);s6(n=1)");
        x.nights(1);
        DUE.is("promise 14: by the night", x.sleepful(300, 1, 1), 6);
    }

    private static void sleepfulOfTheLast() {
        NightCarts x = bothEnds();
        int[] wants = {20, 1, 1 << 13};
        for (int what = 0; what < 3; what++) {
            DUE.is("promise 14: street 13, what " + what, x.sleepful(1, 1 | 1 << 13, what), wants[what]);
        }
    }

    // promise 15

    private static void pitAtNumbers() {
        NightCarts x = new NightCarts();
        for (int what = 0; what < 4; what++) {
            DUE.is("promise 15: no street is told", x.pitAt(what), -2);
        }
        for (int what : new int[] {-1, 4, 20, FAR[0], FAR[2], FAR[4]}) {
            DUE.is("promise 15: no such what " + what, x.pitAt(what), -1);
        }
        x.street(7, 0, 0, 0);
        int[] wants = {7, 0, 7, 0};
        for (int what = 0; what < 4; what++) {
            DUE.is("promise 15: one street, what " + what, x.pitAt(what), wants[what]);
        }
        DUE.is("promise 15: no such what", x.pitAt(4), -1);
    }

    private static void pitAtMostOthers() {
        NightCarts x = Due.city(5);
        Due.roads(x, "ab1;cd99;de99");
        int[] wants = {3, 99, 3, 198};
        for (int what = 0; what < 4; what++) {
            DUE.is("promise 15: most others, what " + what, x.pitAt(what), wants[what]);
        }
        Due.roads(x, "ab10;bc1;bd1;ce1");
        int[] apart = {1, 10, 1, 10 + 1 + 1 + 2};
        for (int what = 0; what < 4; what++) {
            DUE.is("promise 15: one part, what " + what, x.pitAt(what), apart[what]);
        }
        Due.roads(x, "ab50;bc50;cd1;ce1");
        int[] twoPits = {1, 51, 2, 50 + 100 + 1 + 1};
        for (int what = 0; what < 4; what++) {
            DUE.is("promise 15: two pits, what " + what, x.pitAt(what), twoPits[what]);
        }
    }

    private static void pitAtOfLikeOnes() {
        NightCarts x = Due.city(4);
        Due.roads(x, "cd5");
        int[] wants = {2, 5, 2, 5};
        for (int what = 0; what < 4; what++) {
            DUE.is("promise 15: of two alike the lower, what " + what, x.pitAt(what), wants[what]);
        }
        Due.roads(x, "ab5;cd5");
        DUE.is("promise 15: of four alike", x.pitAt(0), 0);
        DUE.is("promise 15: of four alike", x.pitAt(2), 0);
        Due.roads(x, "ab6;cd5");
        DUE.is("promise 15: the nearer part", x.pitAt(0), 2);
        DUE.is("promise 15: the nearer part", x.pitAt(2), 2);
    }

    private static void pitAtTheLast() {
        NightCarts x = Due.city(14);
        Due.roads(x, "am9;mn1;nl9;kj1");
        int[] wants = {12, 10, 12, 9 + 1 + 10};
        for (int what = 0; what < 4; what++) {
            DUE.is("promise 15: near street 13, what " + what, x.pitAt(what), wants[what]);
        }
        Due.roads(x, "an1;nb1;cd1");
        int[] last = {13, 1, 13, 2};
        for (int what = 0; what < 4; what++) {
            DUE.is("promise 15: street 13, what " + what, x.pitAt(what), last[what]);
        }
        Due.roads(x, "ab1;bn9;cd2;de3");
        DUE.is("promise 15: to street 13 it is far", x.pitAt(0), 3);
        Due.roads(x, "ab1;bn1;cd2;de3");
        DUE.is("promise 15: to street 13 it is near", x.pitAt(0), 1);
    }

    // promise 16

    private static void cutNumbers() {
        NightCarts x = Due.city(14);
        int[] wants = {0, -2, -2};
        for (int what = 0; what < 3; what++) {
            DUE.is("promise 16: no roads, what " + what, x.cut(what), wants[what]);
        }
        for (int what : new int[] {-1, 3, 20, FAR[0], FAR[2], FAR[4]}) {
            DUE.is("promise 16: no such what " + what, x.cut(what), -1);
        }
        Due.roads(x, "ab9;bc9;cd9;de9;ef9;fg9;gh9;hi9;ij9;jk9;kl9;lm9;mn9");
        DUE.is("promise 16: thirteen", x.cut(0), 13);
        Due.roads(x, "ab9;bc9;cd9;de9;ef9;fg9;gh9;hi9;ij9;jk9;kl9;lm9;mn9;na9");
        DUE.is("promise 16: a ring has none", x.cut(0), 0);
        DUE.is("promise 16: the first of none", x.cut(1), -2);
        Due.roads(x, "mn1");
        DUE.is("promise 16: the last two", x.cut(1), 12);
        DUE.is("promise 16: the last two", x.cut(2), 13);
    }

    private static void cutFirst() {
        NightCarts x = Due.city(8);
        Due.roads(x, "hg1;fb1;ac1;cd1;da1;gb1;bd1");
        DUE.is("promise 16: four of them", x.cut(0), 4);
        DUE.is("promise 16: the lower street", x.cut(1), 1);
        DUE.is("promise 16: the higher one", x.cut(2), 3);
        Due.roads(x, "dc1;cd2;dc3");
        DUE.is("promise 16: one road, though told thrice", x.cut(0), 1);
        DUE.is("promise 16: the lower street", x.cut(1), 2);
    }

    // promise 20

    private static void outNumbers() {
        NightCarts x = Due.city(6);
        for (int many : new int[] {0, -1, 6, FAR[0], FAR[2], FAR[4]}) {
            DUE.is("promise 20: no such many " + many, x.out(many, 0), -1);
        }
        for (int what : new int[] {-1, 2, 20, FAR[0], FAR[4]}) {
            DUE.is("promise 20: no such what " + what, x.out(1, what), -1);
        }
        DUE.is("promise 20: five of six", x.out(5, 1), 31);
        NightCarts y = new NightCarts();
        DUE.is("promise 20: none is told", y.out(1, 0), -1);
        y.street(13, 0, 9, 0);
        DUE.is("promise 20: one is told", y.out(1, 1), 1 << 13);
        DUE.is("promise 20: one is told", y.out(2, 1), -1);
        y.street(2, 0, 0, 0);
        DUE.is("promise 20: two are told", y.out(2, 1), 1 << 13 | 4);
    }

    private static void outLess() {
        NightCarts x = new NightCarts();
        x.street(0, 0, 9, 0);
        x.street(1, 0, 1, 0);
        Due.law(x, "w999*l(1=1)");
        DUE.is("promise 20: 999 at most, ten hours", x.out(2, 0), 2 * 9990);
        Due.law(x, "w9-l(1=1)");
        DUE.is("promise 20: less than nothing", x.out(1, 0), -10);
        DUE.is("promise 20: less than nothing", x.out(1, 1), 2);
        DUE.is("promise 20: less than nothing", x.out(2, 0), -100);
        Due.law(x, "wl(r=0);wl*10(r=9)");
        DUE.is("promise 20: hours 0 and 9", x.out(1, 0), 9 + 90);
        Due.law(x, "wl(k=0&i=0&n=0)");
        DUE.is("k is 0 where no cart is told", x.out(1, 0), 90);
        Due.law(x, "wl(d>4)");
        DUE.is("promise 20: depth as it is", x.out(1, 0), 0);
        x.pour(0, 5);
        DUE.is("promise 20: depth as it is, in all hours", x.out(1, 0), 90);
        DUE.is("lamps are not put out for good", x.count(30), 9);
    }

    private static void outOfTheLast() {
        NightCarts x = bothEnds();
        Due.law(x, "wl(1=1)");
        DUE.is("promise 20: street 13", x.out(1, 1), 1 << 13);
        DUE.is("promise 20: street 13", x.out(1, 0), 20);
        DUE.is("promise 20: streets 0 and 13", x.out(2, 0), 30);
    }

    private static void outOfLikeOnes() {
        NightCarts x = Due.city(8);
        for (int many = 1; many <= 5; many++) {
            DUE.is("promise 20: no law: the least of like ones", x.out(many, 1), (1 << many) - 1);
            DUE.is("promise 20: no law: nothing less", x.out(many, 0), 0);
        }
        Due.law(x, "w5-[l+9]/10(i=2);w5+[l+9]/10(i=7|i=5|i=4)");
        int[] wants = {16, 48, 176, 177, 179};
        for (int many = 1; many <= 5; many++) {
            DUE.is("promise 20: " + many + " of them", x.out(many, 1), wants[many - 1]);
        }
    }

    // promise 21

    private static void jobsNumbers() {
        NightCarts x = new NightCarts();
        DUE.is("promise 21: it has not so many", x.jobs(1, 1, 10), -1);
        Due.bytes(x, 1, 2, 3, 4, 5, 6, 7, 8, 9);
        for (int n : new int[] {0, -1, 9, 20, 21, FAR[0], FAR[2], FAR[4]}) {
            DUE.is("promise 21: no such n " + n, x.jobs(n, 1, 10), -1);
            DUE.is("promise 21: no such n, no such carts", x.jobs(n, 9, 10), -1);
            DUE.is("promise 21: the tape stays", x.count(6), 20);
        }
        DUE.is("promise 21: eight", x.jobs(8, 1, 10), 36);
        DUE.is("promise 21: empty then", x.count(6), 0);
        Due.bytes(x, 7);
        DUE.is("promise 21: one", x.jobs(1, 3, 10), 7);
        DUE.is("promise 21: empty then", x.count(6), 0);
    }

    private static void jobsNoSuchCartsOrPlace() {
        NightCarts x = new NightCarts();
        for (int carts : new int[] {0, -1, 4, FAR[0], FAR[2], FAR[4]}) {
            Due.bytes(x, 1, 2, 3);
            DUE.is("promise 21: no such carts " + carts, x.jobs(3, carts, 10), -4);
            DUE.is("promise 21: empty then", x.count(6), 0);
        }
        for (int what : new int[] {-1, 3, 8, 9, 11, FAR[0], FAR[2], FAR[4]}) {
            Due.bytes(x, 1, 2, 3);
            DUE.is("promise 21: no such place " + what, x.jobs(3, 2, what), -4);
            DUE.is("promise 21: empty then", x.count(6), 0);
        }
        Due.bytes(x, 1, 2, 3, 4, 5, 6, 7, 8);
        DUE.is("promise 21: place 7 of eight", x.jobs(8, 1, 7), 0);
        Due.bytes(x, 1, 2, 3, 4, 5, 6, 7, 8);
        DUE.is("promise 21: no place 8 of eight", x.jobs(8, 1, 8), -4);
    }

    private static void jobs(int carts, int longest, int[] row, int... minutes) {
        NightCarts x = new NightCarts();
        Due.bytes(x, minutes);
        DUE.is("promise 21: the longest", x.jobs(minutes.length, carts, 10), longest);
        for (int job = 0; job < minutes.length; job++) {
            Due.bytes(x, minutes);
            DUE.is("promise 21: the cart of job " + job, x.jobs(minutes.length, carts, job), row[job]);
        }
    }

    private static void jobsBounds() {
        jobs(1, 8 * 255, new int[] {0, 0, 0, 0, 0, 0, 0, 0}, 255, 255, 255, 255, 255, 255, 255, 255);
        jobs(2, 4 * 255, new int[] {0, 0, 0, 0, 1, 1, 1, 1}, 255, 255, 255, 255, 255, 255, 255, 255);
        jobs(3, 3 * 255, new int[] {0, 0, 0, 1, 1, 1, 2, 2}, 255, 255, 255, 255, 255, 255, 255, 255);
        jobs(3, 0, new int[] {0, 0, 0, 0, 0, 0, 0, 0}, 0, 0, 0, 0, 0, 0, 0, 0);
        jobs(2, 0, new int[] {0}, 0);
        jobs(3, 255, new int[] {0}, 255);
        jobs(3, 128, new int[] {0, 1, 2}, 128, 127, 128);
    }

    private static void jobsLeastRow() {
        jobs(2, 7, new int[] {0, 0, 1}, 3, 4, 5);
        jobs(2, 5, new int[] {0, 0, 1}, 5, 0, 5);
        jobs(2, 9, new int[] {0, 1, 1, 1}, 9, 2, 3, 4);
        jobs(3, 9, new int[] {0, 1, 1, 1}, 9, 2, 3, 4);
        jobs(3, 9, new int[] {0, 0, 1, 2}, 2, 7, 9, 9);
        jobs(3, 9, new int[] {0, 0, 0, 1}, 2, 3, 4, 9);
    }

    // promise 22

    private static void loadNumbers() {
        NightCarts x = new NightCarts();
        DUE.is("promise 22: it has not so many", x.load(1, 0, 0), -1);
        Due.bytes(x, 1, 1, 2, 2, 4, 4, 8, 8, 16, 16, 32, 32, 64, 64, 128, 128, 3, 3);
        for (int n : new int[] {0, -1, 9, 10, 11, FAR[0], FAR[2], FAR[3], FAR[4]}) {
            DUE.is("promise 22: no such n " + n, x.load(n, 1, 0), -1);
        }
        for (int yards : new int[] {-1, 1000, FAR[0], FAR[2], FAR[4]}) {
            DUE.is("promise 22: no such yards " + yards, x.load(8, yards, 0), -1);
        }
        for (int what : new int[] {-1, 2, 10, FAR[0], FAR[4]}) {
            DUE.is("promise 22: no such what " + what, x.load(8, 1, what), -1);
        }
        DUE.is("promise 22: the tape stays", x.count(6), 20);
        DUE.is("promise 22: eight heaps", x.load(8, 255, 1), 255);
        DUE.is("promise 22: empty then", x.count(6), 0);
        DUE.is("promise 22: it has not so many", x.load(1, 255, 1), -1);
    }

    private static void load(int yards, int stars, int bits, int... heaps) {
        NightCarts x = new NightCarts();
        Due.bytes(x, heaps);
        DUE.is("promise 22: stars of " + yards, x.load(heaps.length / 2, yards, 0), stars);
        DUE.is("promise 22: empty then", x.count(6), 0);
        Due.bytes(x, heaps);
        DUE.is("promise 22: heaps of " + yards, x.load(heaps.length / 2, yards, 1), bits);
    }

    private static void loadBounds() {
        load(999, 4 * 255, 15, 255, 255, 255, 255, 255, 255, 234, 255);
        load(999, -2, -2, 255, 255, 255, 255, 255, 255, 235, 255);
        load(0, 0, 0, 9, 9);
        load(0, 255, 1, 0, 255);
        load(0, 8 * 255, 255, 0, 255, 0, 255, 0, 255, 0, 255, 0, 255, 0, 255, 0, 255, 0, 255);
        load(9, 9, 1, 9, 9);
        NightCarts x = new NightCarts();
        Due.bytes(x, 1, 1, 1, 1, 1, 1, 1, 1, 1, 1, 1, 1, 1, 1, 1, 1, 1, 1, 1, 1);
        DUE.is("promise 22: ten heaps are too many, though there", x.load(10, 1, 0), -1);
        DUE.is("promise 22: the tape stays", x.count(6), 20);
    }

    private static void loadJustSoMany() {
        load(8, -2, -2, 9, 1, 10, 1);
        load(9, 1, 1, 9, 1, 10, 1);
        load(20, -2, -2, 9, 1, 10, 1);
        load(5, 7, 4, 2, 3, 3, 3, 5, 7);
        load(5, 6, 3, 2, 3, 3, 3, 5, 6);
        load(5, 0, 1, 5, 0, 5, 0);
        load(5, 0, 1, 5, 0, 0, 0);
        load(5, 1, 3, 5, 0, 0, 1);
    }

    // promise 23

    private static void bridesNumbers() {
        NightCarts x = Due.city(8);
        DUE.is("promise 23: it has not so many", x.brides(1, 10), -1);
        Due.bytes(x, 1, 2, 3, 4, 5, 6, 1, 2, 3, 4, 5, 6, 7);
        for (int n : new int[] {0, -1, 7, 10, 11, FAR[0], FAR[2], FAR[3], FAR[4]}) {
            DUE.is("promise 23: no such n " + n, x.brides(n, 10), -1);
            DUE.is("promise 23: no such n, no such place", x.brides(n, 9), -1);
            DUE.is("promise 23: the tape stays", x.count(6), 20);
        }
        DUE.is("promise 23: six", x.brides(6, 10), 0);
        DUE.is("promise 23: empty then", x.count(6), 0);
        for (int what : new int[] {-1, 2, 6, 9, 11, FAR[0], FAR[2], FAR[4]}) {
            Due.bytes(x, 1, 2, 3, 4);
            DUE.is("promise 23: no such place " + what, x.brides(2, what), -4);
            DUE.is("promise 23: empty then", x.count(6), 0);
        }
    }

    private static void brides(NightCarts x, int what, int want, int... bytes) {
        Due.bytes(x, bytes);
        DUE.is("promise 23: brides, what " + what, x.brides(bytes.length / 2, what), want);
        DUE.is("promise 23: empty then", x.count(6), 0);
    }

    private static void bridesStreets() {
        NightCarts x = Due.city(8);
        for (int i : new int[] {8, 13, 14, 32, 128, 255}) {
            brides(x, 10, -2, 1, i);
            brides(x, 0, -2, 1, 1, 3, i);
            brides(x, 0, -2, 1, 1, i, 3);
        }
        brides(x, 10, -2, 1, 1, 3, 3);
        brides(x, 10, -2, 1, 1, 1, 3, 4, 3);
        brides(x, 10, -2, 1, 1, 1, 1, 1, 1, 0, 1, 2, 3, 4, 0);
        brides(x, 10, 0, 0, 0);
        x.street(13, 0, 0, 99);
        brides(x, 0, 13, 99, 13);
        brides(x, 10, 0, 99, 13);
    }

    private static void bridesMissing() {
        NightCarts x = new NightCarts();
        x.street(0, 0, 0, 0);
        x.street(1, 0, 0, 99);
        x.street(2, 0, 0, 50);
        brides(x, 10, 255, 255, 0);
        brides(x, 10, 0, 99, 1);
        brides(x, 10, 1, 100, 1);
        brides(x, 10, 156, 255, 1);
        brides(x, 10, 0, 0, 1);
        brides(x, 10, 1, 100, 50, 1, 2);
        brides(x, 10, 1 + 50, 50, 100, 0, 1);
        brides(x, 10, 3 * 255 - 149, 255, 255, 255, 0, 1, 2);
    }

    private static void bridesLeastRow() {
        NightCarts x = Due.city(8);
        int[] alike = {7, 2, 5, 1, 6, 0};
        for (int bride = 0; bride < 6; bride++) {
            brides(x, bride, alike[bride], 0, 0, 0, 0, 0, 0, 7, 2, 5, 1, 6, 0);
        }
        // stars 35 and 10: the first bride's wish is met by both, the second one's by street 7 alone
        brides(x, 0, 2, 10, 35, 7, 2);
        brides(x, 1, 7, 10, 35, 7, 2);
        // each way two are missing: the first place for the first bride
        brides(x, 10, 27, 36, 36, 7, 2);
        brides(x, 0, 7, 36, 36, 7, 2);
        brides(x, 0, 2, 36, 36, 2, 7);
    }

    // promise 24

    private static void thievesNumbers() {
        NightCarts x = new NightCarts();
        DUE.is("promise 24: it has not so many", x.thieves(1, 0, 0), -1);
        Due.bytes(x, 1, 2, 3, 4, 5, 6, 7, 8, 9, 10, 11);
        for (int n : new int[] {0, -1, 11, 20, 21, FAR[0], FAR[2], FAR[4]}) {
            DUE.is("promise 24: no such n " + n, x.thieves(n, 1, 0), -1);
        }
        for (int missing : new int[] {-1, 2551, FAR[0], FAR[2], FAR[4]}) {
            DUE.is("promise 24: no such missing " + missing, x.thieves(10, missing, 0), -1);
        }
        for (int what : new int[] {-1, 3, 10, FAR[0], FAR[4]}) {
            DUE.is("promise 24: no such what " + what, x.thieves(10, 1, what), -1);
        }
        DUE.is("promise 24: the tape stays", x.count(6), 20);
        DUE.is("promise 24: ten", x.thieves(10, 55, 1), 1023);
        DUE.is("promise 24: empty then", x.count(6), 0);
    }

    private static void thieves(int missing, int sets, int first, int surely, int... yards) {
        NightCarts x = new NightCarts();
        int[] wants = {sets, first, surely};
        for (int what = 0; what < 3; what++) {
            Due.bytes(x, yards);
            DUE.is("promise 24: missing " + missing + ", what " + what, x.thieves(yards.length, missing, what),
                    wants[what]);
            DUE.is("promise 24: empty then", x.count(6), 0);
        }
    }

    private static void thievesBounds() {
        thieves(2550, 1, 1023, 1023, 255, 255, 255, 255, 255, 255, 255, 255, 255, 255);
        thieves(2550, 0, -2, -2, 255, 255, 255, 255, 255, 255, 255, 255, 255, 254);
        thieves(0, 1, 0, 0, 255, 255, 255, 255, 255, 255, 255, 255, 255, 255);
        thieves(0, 1024, 0, 0, 0, 0, 0, 0, 0, 0, 0, 0, 0, 0);
        thieves(1, 0, -2, -2, 0, 0, 0, 0, 0, 0, 0, 0, 0, 0);
        thieves(255, 1, 1, 1, 255);
        thieves(254, 0, -2, -2, 255);
        thieves(0, 2, 0, 0, 0);
    }

    private static void thievesSets() {
        thieves(6, 2, 2, 0, 4, 6, 2);
        thieves(6, 2, 3, 0, 4, 2, 6);
        thieves(6, 1, 7, 7, 1, 2, 3);
        thieves(7, 2, 3, 2, 3, 4, 3);
        thieves(3, 2, 1, 1, 3, 0);
    }

    // promise 25

    private static void latestNumbers() {
        NightCarts x = Due.city(2);
        DUE.is("promise 25: it has not so many", x.latest(1), -1);
        Due.bytes(x, 0, 0, 5, 0, 0, 6, 0, 0, 7, 0, 0, 8, 0, 0, 9, 0, 0, 4, 0, 0, 3);
        for (int n : new int[] {0, -1, 7, 13, 14, FAR[0], FAR[2], FAR[3], FAR[4]}) {
            DUE.is("promise 25: no such n " + n, x.latest(n), -1);
            DUE.is("promise 25: the tape stays", x.count(6), 40);
        }
        DUE.is("promise 25: six", x.latest(6), 4);
        DUE.is("promise 25: empty then", x.count(6), 0);
        Due.bytes(x, 0, 0, 5, 0, 0, 6, 0, 0, 7, 0, 0, 8, 0, 0, 9, 0, 0, 4);
        DUE.is("promise 25: one", x.latest(1), 5);
        DUE.is("promise 25: empty then", x.count(6), 0);
    }

    private static void latest(NightCarts x, int want, int... bytes) {
        Due.bytes(x, bytes);
        DUE.is("promise 25: latest", x.latest(bytes.length / 3), want);
        DUE.is("promise 25: empty then", x.count(6), 0);
    }

    private static void latestStreets() {
        NightCarts x = Due.city(3);
        Due.roads(x, "ab1");
        for (int i : new int[] {3, 13, 14, 128, 255}) {
            latest(x, -3, i, 9, 9);
            latest(x, -3, 1, 0, 0, i, 9, 9);
        }
        latest(x, -2, 2, 255, 255);
        latest(x, -3, 2, 255, 255, 3, 255, 255);
        NightCarts y = new NightCarts();
        y.street(1, 0, 0, 0);
        latest(y, -3, 0, 9, 9);
        latest(y, -2, 1, 9, 9);
    }

    private static void latestMinutes() {
        NightCarts x = Due.city(2);
        Due.roads(x, "ab10");
        latest(x, 0, 0, 0, 0);
        latest(x, 65535, 0, 255, 255);
        latest(x, 0, 1, 0, 10);
        latest(x, -2, 1, 0, 9);
        latest(x, -2, 1, 0, 0);
        latest(x, 246, 1, 1, 0);
        latest(x, 245, 1, 0, 255);
        latest(x, 65525, 1, 255, 255);
    }

    private static void latestWithoutStaying() {
        NightCarts x = Due.city(3);
        Due.roads(x, "ab10;bc10");
        latest(x, 20, 1, 0, 30, 2, 0, 90);
        latest(x, 70, 1, 0, 90, 2, 0, 90);
        latest(x, 70, 2, 0, 90, 2, 0, 90);
        latest(x, 60, 1, 0, 90, 0, 0, 80, 1, 0, 90);
        latest(x, 40, 1, 0, 90, 2, 0, 90, 1, 0, 90, 0, 0, 90, 0, 0, 90, 1, 0, 90);
        latest(x, -2, 1, 0, 90, 2, 0, 90, 1, 0, 90, 0, 0, 90, 1, 0, 90, 2, 0, 59);
        latest(x, 0, 1, 0, 90, 2, 0, 90, 1, 0, 90, 0, 0, 90, 1, 0, 90, 2, 0, 60);
    }

    // promises 26 and 27

    private static void keepYards() {
        NightCarts x = new NightCarts();
        DUE.is("promise 26: no streets", x.keep(), 0);
        DUE.is("promise 27: it was kept", x.undo(), true);
        for (int i = 0; i < 14; i++) {
            x.street(i, 0, 0, 0);
            x.pour(i, 999);
            DUE.is("promise 26: yards in all streets", x.keep(), 999 * (i + 1));
        }
    }

    private static void undoWhatWasKept() {
        NightCarts x = Due.city(2);
        DUE.is("promise 27: none was kept", x.undo(), false);
        x.pour(0, 5);
        DUE.is("promise 27: none was kept", x.undo(), false);
        DUE.is("promise 27: refused, nothing is changed", x.count(70), 5);
        x.nights(1);
        x.pour(1, 9);
        x.keep();
        x.nights(2);
        x.pour(0, 1);
        x.feed(1, 2, 3, 4, 5);
        x.cart(0, 7);
        x.street(2, 9, 9, 9);
        x.pour(2, 4);
        DUE.is("promise 27: undone", x.undo(), true);
        int[] whats = {0, 1, 2, 70, 71, 72, 3, 6, 90, 12};
        int[] wants = {1, 100, 5, 0, 9, 0, 7, 20, 7, 9};
        for (int p = 0; p < whats.length; p++) {
            DUE.is("promise 27: count(" + whats[p] + ")", x.count(whats[p]), wants[p]);
        }
        x.pour(1, 1);
        DUE.is("promise 27: undone once more", x.undo(), true);
        DUE.is("promise 27: as kept last", x.count(71), 9);
        x.pour(1, 2);
        x.keep();
        x.pour(1, 3);
        x.keep();
        x.pour(1, 4);
        x.undo();
        DUE.is("promise 27: as kept last, not as before", x.count(71), 14);
    }

    private static void undoTheLast() {
        NightCarts x = bothEnds();
        x.pour(0, 3);
        x.pour(13, 4);
        DUE.is("promise 26: streets 0 and 13", x.keep(), 7);
        x.pour(13, 5);
        x.pour(0, 6);
        x.undo();
        DUE.is("promise 27: street 0", x.count(70), 3);
        DUE.is("promise 27: street 13", x.count(83), 4);
    }

    // promise 28

    private static void checkNumbers() {
        NightCarts x = Due.city(14);
        DUE.is("promise 28: none, of an empty tape", x.check(0), -1);
        DUE.is("promise 28: it has not so many", x.check(1), -2);
        x.feed(0, 0, 0, 0, 0);
        x.feed(0, 0, 0, 0, 0);
        for (int n : new int[] {-1, 15, 20, 21, FAR[0], FAR[2], FAR[3], FAR[4]}) {
            DUE.is("promise 28: no such n " + n, x.check(n), -2);
            DUE.is("promise 28: the tape stays", x.count(6), 40);
        }
        DUE.is("promise 28: fourteen", x.check(14), -1);
        DUE.is("promise 28: empty then", x.count(6), 0);
        x.feed(0, 0, 0, 0, 0);
        DUE.is("promise 28: ten of twenty bytes, not eleven", x.check(11), -2);
        DUE.is("promise 28: the tape stays", x.count(6), 20);
        DUE.is("promise 28: ten", x.check(10), -1);
        x.feed(1, 1, 1, 1, 1);
        DUE.is("promise 28: none", x.check(0), -1);
        DUE.is("promise 28: empty then, by 0 too", x.count(6), 0);
    }

    private static void checkPlaces() {
        NightCarts x = Due.city(13);
        int[] bytes = new int[28];
        for (int i = 0; i < 13; i++) {
            x.pour(i, 999 - 70 * i);
            bytes[2 * i] = 999 - 70 * i >> 8;
            bytes[2 * i + 1] = 999 - 70 * i & 255;
        }
        for (int place = 0; place < 28; place++) {
            bytes[place] ^= 1;
            Due.bytes(x, bytes);
            DUE.is("promise 28: byte " + place + " is not so", x.check(14), place / 2);
            DUE.is("promise 28: empty then", x.count(6), 0);
            Due.bytes(x, bytes);
            DUE.is("promise 28: not asked for", x.check(place / 2), -1);
            bytes[place] ^= 1;
        }
        Due.bytes(x, bytes);
        DUE.is("promise 28: right, 0 for the one that is not told", x.check(14), -1);
        bytes[4] ^= 1;
        bytes[9] ^= 1;
        Due.bytes(x, bytes);
        DUE.is("promise 28: the first of two", x.check(14), 2);
        Due.bytes(x, 255, 255);
        DUE.is("promise 28: 65535 is none", x.check(1), 0);
    }

    // promise 29

    private static void countNumbers() {
        NightCarts x = Due.city(14);
        for (int k = 0; k < 5; k++) {
            x.cart(k, 1);
        }
        for (int what = -5; what <= 120; what++) {
            boolean isOne = what >= 0 && what <= 7 || what >= 100 && what <= 104;
            for (int base : new int[] {10, 30, 50, 70}) {
                isOne |= what >= base && what <= base + 13;
            }
            isOne |= what >= 90 && what <= 94;
            DUE.is("promise 29: is there count(" + what + ")", x.count(what) != -1, isOne);
        }
        for (int what : new int[] {FAR[0], FAR[1], FAR[2], FAR[3], FAR[4], FAR[0] + 100, 1000}) {
            DUE.is("promise 29: none for others: " + what, x.count(what), -1);
        }
    }

    private static void countOfTold() {
        NightCarts x = new NightCarts();
        for (int i = 0; i < 14; i++) {
            for (int base : new int[] {10, 30, 50, 70}) {
                DUE.is("promise 29: not told: " + (base + i), x.count(base + i), -1);
            }
            x.street(i, 20 + i, i % 10, 40 + i);
            x.pour(i, 900 + i);
            int[] wants = {20 + i, i % 10, 40 + i, 900 + i};
            for (int row = 0; row < 4; row++) {
                DUE.is("promise 29: told: " + (10 + 20 * row + i), x.count(10 + 20 * row + i), wants[row]);
            }
        }
        for (int k = 0; k < 5; k++) {
            DUE.is("promise 29: not told: " + (90 + k), x.count(90 + k), -1);
            DUE.is("promise 29: no stops: " + (100 + k), x.count(100 + k), 0);
            Due.plan(x, k, Due.many(k + 12, "a1", ","));
            DUE.is("promise 29: stops, told or not", x.count(100 + k), k + 12);
            DUE.is("promise 29: not told: " + (90 + k), x.count(90 + k), -1);
            x.cart(k, 95 + k);
            DUE.is("promise 29: told: " + (90 + k), x.count(90 + k), 95 + k);
        }
    }
}
