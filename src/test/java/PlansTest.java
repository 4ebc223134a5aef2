/** Part VI by its sentences: the ROUND, CALLS that are WORTHY of it, BOOTHS that are PLACED by crane. */
public final class PlansTest {
    private static final int UNTOLD = -1000000000;

    public static void main(String[] args) {
        roundThereAndBack();
        roundOfSeveral();
        roundNumbers();
        roundOfEight();
        callsWorth();
        worthyOfSeveral();
        worthyCoins();
        worthyOfEight();
        takings();
        placedUnlike();
        placedCost();
        placedOfSeveral();
        placedNumbers();
        placedOfEight();
        placedAsInImage();
        Check.end();
    }

    /** Places, as many booths at the last of them (booth 0 at the last), no miles yet. */
    private static Counted row(int places, int booths) {
        Counted x = new Counted();
        for (int i = 0; i < places; i++) {
            x.place(1);
        }
        Check.law(x, "dark 1=2");
        for (int b = 0; b < booths; b++) {
            Check.due("BOOTH", x.booth(places - 1 - b, 5, 0), b);
        }
        return x;
    }

    private static void order(String what, Counted x, int set, int from, int miles, int... booths) {
        Check.due(what + ", MILES", x.round(set, from, -1), miles);
        for (int at = 0; at < 8; at++) {
            Check.due(what + " at " + at, x.round(set, from, at), at < booths.length ? booths[at] : -1);
        }
    }

    /** "for a set of BOOTHS from a PLACE and back: the order of least MILES together". */
    private static void roundThereAndBack() {
        Counted x = row(4, 3);
        // booths 0, 1, 2 at places 3, 2, 1
        x.miles(0, 1, 10);
        x.miles(0, 2, 20);
        x.miles(0, 3, 40);
        x.miles(1, 2, 5);
        x.miles(1, 3, 50);
        x.miles(2, 3, 30);
        order("none", x, 0, 0, 0);
        order("one", x, 1, 0, 80, 0);
        order("the next", x, 4, 0, 20, 2);
        order("two", x, 6, 0, 35, 1, 2);
        order("0 and 1: 40, 30, 20", x, 3, 0, 90, 0, 1);
        order("all: 40, 30, 5, 10", x, 7, 0, 85, 0, 1, 2);
        order("from a BOOTH of the set", x, 2, 2, 0, 1);
        order("from a BOOTH with another: 5, 0, 5 or 0, 5, 5", x, 6, 2, 10, 1, 2);
        x.miles(0, 3, 999);
        order("all: 10, 50, 30, 20", x, 7, 0, 110, 1, 0, 2);
        x.miles(1, 3, 29);
        order("all: 20, 30, 29, 10", x, 7, 0, 89, 1, 0, 2);
        x.move(2, 0);
        order("as it is MOVED: 999, 30, 20, 0", x, 7, 0, 1049, 0, 1, 2);
    }

    /** "of several the first by its BOOTHS". */
    private static void roundOfSeveral() {
        Counted x = row(5, 4);
        order("no MILES at all", x, 15, 0, 0, 0, 1, 2, 3);
        order("a set", x, 10, 0, 0, 1, 3);
        // one way round or the other: a ring of places 0, 4, 2, 1, 3
        int[] ring = {0, 4, 2, 1, 3};
        for (int i = 0; i < 5; i++) {
            for (int j = 0; j < i; j++) {
                x.miles(ring[i], ring[j], 9);
            }
        }
        for (int i = 0; i < 5; i++) {
            x.miles(ring[i], ring[(i + 1) % 5], 2);
        }
        order("0, 2, 3, 1 ahead of 1, 3, 2, 0", x, 15, 0, 10, 0, 2, 3, 1);
        order("from place 2, past none at 0: 2, 9, 2, 2, 0", x, 15, 2, 15, 0, 1, 3, 2);
    }

    /** round: "NONE: not so many; -2 without these (a set with a BOOTH that there is not, too); the empty set: MILES 0". */
    private static void roundNumbers() {
        Counted x = row(3, 2);
        x.miles(0, 1, 5);
        x.miles(0, 2, 7);
        x.miles(1, 2, 9);
        order("both", x, 3, 0, 21, 0, 1);
        order("none", x, 0, 2, 0);
        Check.due("BOOTH 2", x.round(4, 0, -1), -2);
        Check.due("BOOTH 2 too", x.round(7, 0, 0), -2);
        Check.due("BOOTH 7", x.round(128, 0, 0), -2);
        Check.due("no set", x.round(-1, 0, 0), -2);
        Check.due("no such PLACE", x.round(3, 3, 0), -2);
        Check.due("no such PLACE", x.round(0, -1, -1), -2);
        Check.due("what 8", x.round(3, 0, 8), -2);
        Check.due("what -2", x.round(3, 0, -2), -2);
        Counted y = new Counted();
        y.place(1);
        order("without BOOTHS", y, 0, 0, 0);
        Check.due("BOOTH 0", y.round(1, 0, -1), -2);
    }

    /** BOOTHS 0 to 7: all in one ROUND. */
    private static void roundOfEight() {
        Counted x = row(12, 8);
        for (int a = 0; a < 12; a++) {
            for (int b = 0; b < a; b++) {
                x.miles(a, b, 999);
            }
        }
        int[] way = {0, 7, 11, 4, 10, 5, 9, 6, 8};
        for (int i = 0; i < 9; i++) {
            x.miles(way[i], way[(i + 1) % 9], i == 8 ? 2 : 1);
        }
        order("eight", x, 255, 0, 10, 3, 5, 2, 6, 1, 7, 0, 4);
        Check.due("set 256", x.round(256, 0, -1), -2);
        x.miles(0, 7, 2);
        order("the other way as well", x, 255, 0, 11, 3, 5, 2, 6, 1, 7, 0, 4);
        Counted y = row(9, 8);
        for (int a = 0; a < 9; a++) {
            for (int b = 0; b < a; b++) {
                y.miles(a, b, 999);
            }
        }
        order("the longest", y, 255, 0, 9 * 999, 0, 1, 2, 3, 4, 5, 6, 7);
    }

    /** call: "What a CALL of a BOOTH is worth becomes n (0 to 9999; 0 at first): what it was". */
    private static void callsWorth() {
        Counted x = row(3, 2);
        Check.due("0 at first", x.call(1, 9999), 0);
        Check.due("9999", x.call(1, 0), 9999);
        Check.due("0", x.call(1, 1), 0);
        Check.due("10000", x.call(1, 10000), -1);
        Check.due("-1", x.call(1, -1), -1);
        Check.due("as it was", x.call(1, 5), 1);
        Check.due("another", x.call(0, 7), 0);
        Check.due("no such BOOTH", x.call(2, 7), -1);
        Check.due("WORTHY", x.worthy(0, 0, 1), 12);
    }

    private static void worthy(String what, Counted x, int from, int coins, int set, int worth) {
        Check.due(what + ", set", x.worthy(from, coins, 0), set);
        Check.due(what + ", worth", x.worthy(from, coins, 1), worth);
    }

    /** "the set of BOOTHS whose worth together, less the coins for its ROUND, is most; of several the least". */
    private static void worthyOfSeveral() {
        Counted x = row(4, 3);
        worthy("nothing", x, 0, 99, 0, 0);
        for (int place = 1; place < 4; place++) {
            x.miles(0, place, 10);
        }
        x.call(0, 20);
        worthy("even: the empty set", x, 0, 1, 0, 0);
        x.call(0, 21);
        worthy("one more", x, 0, 1, 1, 1);
        x.call(1, 21);
        worthy("both: 42 less 20, no MILES between", x, 0, 1, 3, 22);
        x.miles(3, 1, 999);
        x.miles(2, 1, 999);
        x.miles(3, 2, 20);
        worthy("both: 42 less 40", x, 0, 1, 3, 2);
        x.miles(3, 2, 21);
        worthy("even with one: the least", x, 0, 1, 1, 1);
        x.call(1, 20);
        x.miles(3, 2, 999);
        x.call(2, 21);
        worthy("even: 0 or 2", x, 0, 1, 1, 1);
        x.call(2, 22);
        worthy("2", x, 0, 1, 4, 2);
        worthy("from where 1 is", x, 2, 1, 2, 20);
        worthy("not worth two coins", x, 0, 2, 0, 0);
    }

    /** "coins for a MILE (0 to 99)". */
    private static void worthyCoins() {
        Counted x = row(2, 1);
        x.miles(0, 1, 50);
        x.call(0, 9901);
        worthy("99 coins: 9901 less 9900", x, 0, 99, 1, 1);
        worthy("no coins", x, 0, 0, 1, 9901);
        x.call(0, 9900);
        worthy("99 coins: even", x, 0, 99, 0, 0);
        x.call(0, 0);
        worthy("nothing for nothing", x, 0, 0, 0, 0);
        Check.due("100 coins", x.worthy(0, 100, 0), -1);
        Check.due("-1 coins", x.worthy(0, -1, 0), -1);
        Check.due("what 2", x.worthy(0, 1, 2), -1);
        Check.due("what -1", x.worthy(0, 1, -1), -1);
        Check.due("PLACE 2", x.worthy(2, 1, 0), -1);
        Check.due("PLACE -1", x.worthy(-1, 1, 0), -1);
        Counted y = new Counted();
        y.place(1);
        worthy("without BOOTHS", y, 0, 9, 0, 0);
    }

    /** All of BOOTHS 0 to 7. */
    private static void worthyOfEight() {
        Counted x = row(12, 8);
        for (int b = 0; b < 8; b++) {
            x.call(b, 9999);
        }
        worthy("all", x, 0, 99, 255, 8 * 9999);
        x.call(7, 0);
        worthy("but one of no worth", x, 0, 99, 127, 7 * 9999);
        x.call(0, 0);
        worthy("but two of no worth", x, 0, 99, 126, 6 * 9999);
        x.call(7, 1);
        worthy("with the last", x, 0, 99, 254, 6 * 9999 + 1);
    }

    private static void placed(String what, Counted x, boolean most, int cost, int together, int... places) {
        Check.due(what + ", together", x.placed(most, cost, -1), together);
        for (int b = 0; b < places.length; b++) {
            Check.due(what + ", BOOTH " + b, x.placed(most, cost, b), places[b]);
        }
    }

    /** "of a BOOTH at a PLACE at least and at most (0 to 9999; 0 and 0 at first)". */
    private static void takings() {
        Counted x = row(2, 1);
        placed("at first", x, false, 1, 0, 1);
        placed("at first", x, true, 1, 0, 1);
        Check.due("told", x.takes(0, 1, 0, 9999), true);
        placed("least 0", x, false, 1, 0, 1);
        placed("most 9999", x, true, 1, 9999, 1);
        Check.due("told", x.takes(0, 1, 9999, 9999), true);
        placed("least 9999", x, false, 1, 9999, 1);
        Check.due("told", x.takes(0, 1, 7, 7), true);
        Check.due("at most below at least", x.takes(0, 1, 8, 7), false);
        Check.due("10000", x.takes(0, 1, 8, 10000), false);
        Check.due("10000", x.takes(0, 1, 10000, 10000), false);
        Check.due("-1", x.takes(0, 1, -1, 8), false);
        Check.due("PLACE 2", x.takes(0, 2, 8, 8), false);
        Check.due("BOOTH 1", x.takes(1, 1, 8, 8), false);
        placed("as it was told", x, false, 1, 7, 1);
        placed("as it was told", x, true, 1, 7, 1);
        Check.due("told", x.takes(0, 1, 0, 0), true);
        placed("nothing", x, true, 1, 0, 1);
    }

    /** "all BOOTHS at unlike PLACES that there are: most together, by what they take at least (or at most)". */
    private static void placedUnlike() {
        Counted x = row(3, 2);
        // booths 0, 1 at places 2, 1
        x.takes(0, 0, 50, 60);
        x.takes(1, 0, 49, 70);
        placed("at least", x, false, 0, 50, 0, 1);
        placed("at most", x, true, 0, 70, 1, 0);
        x.takes(0, 1, 30, 30);
        placed("at least: 30 and 49", x, false, 0, 79, 1, 0);
        placed("at most: 30 and 70", x, true, 0, 100, 1, 0);
        x.takes(0, 2, 31, 31);
        placed("at least: 31 and 49", x, false, 0, 80, 2, 0);
        Counted y = row(2, 2);
        y.takes(0, 0, 5, 5);
        placed("no PLACE is free", y, false, 2, 1, 0, 1);
        placed("as they are", y, false, 3, 0, 1, 0);
    }

    /** "a crane's cost (0 to 9999 for each BOOTH that would be moved)". */
    private static void placedCost() {
        Counted x = row(4, 2);
        // booths 0, 1 at places 3, 2
        x.takes(0, 0, 9999, 9999);
        x.takes(0, 3, 1, 1);
        x.takes(1, 1, 100, 100);
        placed("no cost", x, false, 0, 10099, 0, 1);
        placed("99 each", x, false, 99, 9901, 0, 1);
        placed("100 each: even, the first", x, false, 100, 9899, 0, 1);
        placed("101 each: one stays", x, false, 101, 9898, 0, 2);
        placed("9997", x, false, 9997, 2, 0, 2);
        placed("9998: even, the first", x, false, 9998, 1, 0, 2);
        placed("9999: both stay", x, false, 9999, 1, 3, 2);
        Check.due("10000", x.placed(false, 10000, -1), UNTOLD);
        Check.due("-1", x.placed(false, -1, -1), UNTOLD);
        Check.due("they aren't MOVED", x.of(0, 6), 3);
        x.move(0, 0);
        placed("as it is MOVED", x, false, 9999, 9999, 0, 2);
    }

    /** "of several the first by the PLACES of BOOTHS 0, 1 and so on". */
    private static void placedOfSeveral() {
        Counted x = row(5, 3);
        placed("nothing told", x, true, 0, 0, 0, 1, 2);
        x.takes(2, 0, 5, 5);
        placed("the last at 0", x, true, 0, 5, 1, 2, 0);
        x.takes(2, 3, 5, 5);
        placed("or at 3", x, true, 0, 5, 0, 1, 3);
        x.takes(1, 1, 0, 4);
        x.takes(1, 0, 0, 4);
        placed("1 and 3", x, true, 0, 9, 0, 1, 3);
        x.takes(0, 1, 1, 1);
        placed("1, 0 and 3", x, true, 0, 10, 1, 0, 3);
        Counted y = row(4, 2);
        placed("they stay", y, false, 1, 0, 3, 2);
        y.takes(0, 1, 1, 1);
        placed("even: the first", y, false, 1, 0, 1, 2);
        y.takes(1, 0, 1, 1);
        placed("even: the first", y, false, 1, 0, 1, 0);
    }

    /** placed: "-1000000000 without these". */
    private static void placedNumbers() {
        Counted x = row(3, 2);
        Check.due("BOOTH 1", x.placed(false, 0, 1), 1);
        Check.due("BOOTH 2", x.placed(false, 0, 2), UNTOLD);
        Check.due("BOOTH 7", x.placed(false, 0, 7), UNTOLD);
        Check.due("what -2", x.placed(false, 0, -2), UNTOLD);
        Counted y = new Counted();
        placed("without BOOTHS", y, true, 9999, 0);
        Check.due("BOOTH 0", y.placed(true, 0, 0), UNTOLD);
    }

    /** BOOTHS 0 to 7 at PLACES 0 to 11. */
    private static void placedOfEight() {
        Counted x = row(12, 8);
        placed("nothing told", x, true, 0, 0, 0, 1, 2, 3, 4, 5, 6, 7);
        int[] spots = {11, 0, 10, 1, 9, 2, 8, 3};
        for (int b = 0; b < 8; b++) {
            x.takes(b, spots[b], 9999, 9999);
            x.takes(b, (spots[b] + 1) % 12, 0, 9998);
        }
        placed("all", x, false, 0, 8 * 9999, spots);
        placed("less seven cranes", x, false, 9, 8 * 9999 - 63, spots);
        Counted y = row(8, 8);
        placed("eight of eight PLACES", y, true, 0, 0, 0, 1, 2, 3, 4, 5, 6, 7);
        placed("they stay", y, true, 1, 0, 7, 6, 5, 4, 3, 2, 1, 0);
        y.takes(7, 7, 5, 5);
        placed("two change PLACES", y, true, 2, 1, 0, 6, 5, 4, 3, 2, 1, 7);
    }

    /** "PLACES that there are", BOOTHS and MILES: those of the IMAGE, whatever was planned ahead of it. */
    private static void placedAsInImage() {
        Counted x = row(3, 2);
        x.miles(0, 1, 9);
        x.image(0);
        x.place(1);
        x.place(1);
        x.booth(3, 5, 0);
        x.takes(0, 3, 5000, 5000);
        x.takes(1, 4, 5000, 5000);
        x.call(0, 500);
        x.call(2, 500);
        placed("at 3 and 4", x, false, 0, 10000, 3, 4, 0);
        worthy("0 and 2", x, 3, 1, 5, 1000);
        x.back(0);
        placed("PLACES 0 to 2", x, false, 0, 0, 0, 1);
        placed("as they are", x, false, 1, 0, 2, 1);
        worthy("nothing", x, 0, 1, 0, 0);
        order("both", x, 3, 0, 9, 0, 1);
    }
}
