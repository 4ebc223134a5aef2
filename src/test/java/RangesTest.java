/**
 * Promises 1 to 36: each number of each call by the least and the greatest that it may be, and by those beside
 * them, which are refused and leave nothing behind.
 */
public final class RangesTest {
    private static final Twins.Past SOME = Towns::some;
    private static final int UNTOLD = -1000000000;

    public static void main(String[] args) {
        somePlaces();
        someTapesAndBooths();
        someStrips();
        somePasts();
        someLetters();
        someOffices();
        somePlans();
        someImages();
        fullTown();
        lastDay();
        newObject();
        Check.end();
    }

    private static void somePlaces() {
        Twins.range("light (0 to 99)", SOME, (x, n) -> x.place(n), 0, 99, -1);
        Twins.range("miles, a PLACE", SOME, (x, n) -> x.miles(n, 2, 5), 0, 3, -1);
        Twins.range("miles, the other PLACE", SOME, (x, n) -> x.miles(2, n, 5), 0, 3, -1);
        Twins.range("MILES (0 to 999)", SOME, (x, n) -> x.miles(0, 3, n), 0, 999, -1);
        for (int place = 0; place < 4; place++) {
            int same = place;
            Twins.refused("miles between unlike PLACES: " + same, SOME, x -> x.miles(same, same, 5), -1);
        }
        Twins.range("heat of a DAY (0 to 399)", SOME, (x, n) -> x.heat(n, 5), 0, 399, -1);
        Twins.range("HEAT (0 to 40)", SOME, (x, n) -> x.heat(7, n), 0, 40, -1);
    }

    private static void someTapesAndBooths() {
        Twins.range("end of 19 bytes", SOME, (x, n) -> x.end(n), 0, 19, -1);
        Twins.range("booth at a free PLACE", SOME, (x, n) -> x.booth(n, 5, 0), 2, 3, -1);
        Twins.range("price (1 to 999)", SOME, (x, n) -> x.booth(2, n, 0), 1, 999, -1);
        Twins.range("booth's LAW", SOME, (x, n) -> x.booth(2, 5, n), 0, 2, -1);
        Twins.range("move a BOOTH", SOME, (x, n) -> x.move(n, 2), 0, 1, -1);
        Twins.range("move to a free PLACE", SOME, (x, n) -> x.move(0, n), 2, 3, -1);
        Twins.refused("move to its own PLACE", SOME, x -> x.move(0, 0), -1);
        Twins.range("paper of a BOOTH", SOME, (x, n) -> x.paper(n, 5), 0, 1, -1);
        Twins.range("paper for n strips more: 7 there", SOME, (x, n) -> x.paper(0, n), 1, 9992, -1);
    }

    private static void someStrips() {
        Twins.range("strip in a BOOTH", SOME, (x, n) -> x.strip(n, 5, 5), 0, 1, -1);
        Twins.range("head (1 to 99)", SOME, (x, n) -> x.strip(0, n, 5), 1, 99, -1);
        Twins.range("stool (0 to 20)", SOME, (x, n) -> x.strip(0, 5, n), 0, 20, -1);
        Twins.range("clock to a DAY not behind", SOME, (x, n) -> x.clock(n) ? 1 : 0, 6, 399, 0);
        Twins.range("change in a BOOTH", SOME, (x, n) -> x.change(n, 2), 0, 1, -1);
        Twins.range("change BATHS 0 to 2", SOME, (x, n) -> x.change(0, n), 0, 2, -1);
        Twins.range("empty a BOOTH", SOME, (x, n) -> x.empty(n), 0, 1, -1);
    }

    private static void somePasts() {
        Twins.question("of a BOOTH", SOME, (x, n) -> x.of(n, 0), 0, 1, -1);
        Twins.question("of what 0 to 7", SOME, (x, n) -> x.of(0, n), 0, 7, -1);
        Twins.question("spoilt of a BOOTH (NONE: of all)", SOME, (x, n) -> x.spoilt(n, 0), -1, 1, -1);
        Twins.question("spoilt by", SOME, (x, n) -> x.spoilt(0, n), 0, 5, -1);
        Twins.question("again of a BOOTH", SOME, (x, n) -> x.again(n, 1, 0), 0, 1, -1);
        Twins.question("again by a LAW", SOME, (x, n) -> x.again(0, n, 0), 0, 2, -1);
        Twins.question("again, SPOILT by", SOME, (x, n) -> x.again(0, 1, n), 0, 5, -1);
        Twins.question("with of a BOOTH", SOME, (x, n) -> x.with(n, 0, 4), 0, 1, -1);
        Twins.question("with of BATHS 0 to 2", SOME, (x, n) -> x.with(0, n, 4), 0, 2, -1);
        Twins.question("with, DAYS of a BOOTH from day 0", SOME, (x, n) -> x.with(0, 0, n), 0, 6, -1);
        Twins.question("with, DAYS of a BOOTH from day 2", SOME, (x, n) -> x.with(1, 0, n), 2, 6, -1);
        Twins.question("finest of a BOOTH", SOME, (x, n) -> x.finest(n, 0), 0, 1, -1);
        Twins.question("finest of BATHS 0 to 2", SOME, (x, n) -> x.finest(0, n), 0, 2, -1);
    }

    private static void someLetters() {
        Twins.range("reading of a BOOTH", SOME, (x, n) -> x.reading(n, 5, 5, 5), 0, 1, -1);
        Twins.range("reading of a DAY (not behind NOW)", SOME, (x, n) -> x.reading(0, n, 5, 5), 0, 6, -1);
        Twins.range("counter 0 to 99999", SOME, (x, n) -> x.reading(0, 5, n, 5), 0, 99999, -1);
        Twins.range("coins 0 to 99999999", SOME, (x, n) -> x.reading(0, 5, 5, n), 0, 99999999, -1);
        Twins.question("agree of a BOOTH", SOME, (x, n) -> x.agree(n, 6, 0), 0, 1, 2 * UNTOLD);
        Twins.question("agree as KNOWN on a DAY", SOME, (x, n) -> x.agree(0, n, 0), 0, 399, 2 * UNTOLD);
        Twins.question("agree what 0, 1", SOME, (x, n) -> x.agree(0, 6, n), 0, 1, 2 * UNTOLD);
        Twins.range("claim by one of 32", SOME, (x, n) -> x.claim(n, 0, 0), 0, 31, -1);
        Twins.range("claim of a BOOTH", SOME, (x, n) -> x.claim(1, n, 2), 0, 1, -1);
        Twins.range("claim of a DAY (not behind NOW)", SOME, (x, n) -> x.claim(1, 0, n), 0, 6, -1);
        Twins.question("fair of a CLAIM", SOME, (x, n) -> x.fair(n, 0), 0, 4, -1);
        Twins.question("fair what 0, 1", SOME, (x, n) -> x.fair(0, n), 0, 1, -1);
        Twins.question("suspect what 0 to 2", SOME, (x, n) -> x.suspect(n), 0, 2, -1);
    }

    private static void someOffices() {
        Twins.question("refused by a LAW", SOME, (x, n) -> x.refused(n, 0), 0, 2, -1);
        Twins.question("refused of a BOOTH (NONE: all)", SOME, (x, n) -> x.refused(0, n), -1, 1, -1);
        Twins.question("a newer LAW", SOME, (x, n) -> x.newer(n, 0), 0, 2, UNTOLD);
        Twins.question("an old LAW", SOME, (x, n) -> x.newer(0, n), 0, 2, UNTOLD);
        Twins.question("rent by a LAW", SOME, (x, n) -> x.rent(n, 0, 0, 5), 0, 2, UNTOLD);
        Twins.question("rent of a BOOTH", SOME, (x, n) -> x.rent(0, n, 0, 5), 0, 1, UNTOLD);
        Twins.question("rent from a DAY to day 5", SOME, (x, n) -> x.rent(0, 0, n, 5), 0, 5, UNTOLD);
        Twins.question("rent from day 5 to a DAY", SOME, (x, n) -> x.rent(0, 0, 5, n), 5, 399, UNTOLD);
        Twins.question("cheapest of a BOOTH", SOME, (x, n) -> x.cheapest(n, 0, 5), 0, 1, -1);
        Twins.question("cheapest from a DAY to day 5", SOME, (x, n) -> x.cheapest(0, n, 5), 0, 5, -1);
        Twins.question("cheapest from day 5 to a DAY", SOME, (x, n) -> x.cheapest(0, 5, n), 5, 399, -1);
    }

    private static void somePlans() {
        Twins.question("round for a set of BOOTHS", SOME, (x, n) -> x.round(n, 2, -1), 0, 3, -2);
        Twins.question("round from a PLACE", SOME, (x, n) -> x.round(3, n, -1), 0, 3, -2);
        Twins.question("round what NONE to 7", SOME, (x, n) -> x.round(3, 2, n), -1, 7, -2);
        Twins.range("call of a BOOTH", SOME, (x, n) -> x.call(n, 5), 0, 1, -1);
        Twins.range("worth (0 to 9999)", SOME, (x, n) -> x.call(0, n), 0, 9999, -1);
        Twins.question("worthy from a PLACE", SOME, (x, n) -> x.worthy(n, 1, 0), 0, 3, -1);
        Twins.question("coins for a MILE (0 to 99)", SOME, (x, n) -> x.worthy(2, n, 1), 0, 99, -1);
        Twins.question("worthy what 0, 1", SOME, (x, n) -> x.worthy(2, 1, n), 0, 1, -1);
        Twins.range("takes, a BOOTH", SOME, (x, n) -> x.takes(n, 3, 5, 6) ? 1 : 0, 0, 1, 0);
        Twins.range("takes at a PLACE", SOME, (x, n) -> x.takes(0, n, 5, 6) ? 1 : 0, 0, 3, 0);
        Twins.range("takes at least, at most 9", SOME, (x, n) -> x.takes(0, 3, n, 9) ? 1 : 0, 0, 9, 0);
        Twins.range("takes at most (not below it)", SOME, (x, n) -> x.takes(0, 3, 9, n) ? 1 : 0, 9, 9999, 0);
        Twins.refused("takes at least, 9999 at most", SOME, x -> x.takes(0, 3, -1, 9999) ? 1 : 0, 0);
        Twins.refused("takes 10000 at least and at most", SOME, x -> x.takes(0, 3, 10000, 10000) ? 1 : 0, 0);
        Twins.refused("takes -1 at least and at most", SOME, x -> x.takes(0, 3, -1, -1) ? 1 : 0, 0);
        Twins.question("a crane's cost (0 to 9999)", SOME, (x, n) -> x.placed(true, n, 0), 0, 9999, UNTOLD);
        Twins.question("placed what NONE to a BOOTH", SOME, (x, n) -> x.placed(false, 3, n), -1, 1, UNTOLD);
    }

    private static void someImages() {
        Twins.question("count what 0 to 8", SOME, (x, n) -> x.count(n), 0, 8, -1);
        Twins.range("image 0 to 3", SOME, (x, n) -> x.image(n), 0, 3, -1);
        for (int other : new int[] {-2, -1, 1, 3, 4, 5}) {
            Twins.refused("back to image " + other, SOME, x -> x.back(other), -1);
        }
    }

    /** PLACES 0 to 11, LAWS and BOOTHS 0 to 7. */
    private static void fullTown() {
        Twins.Past full = Towns::full;
        Twins.range("PLACES 0 to 11: miles", full, (x, n) -> x.miles(5, n, 9), 0, 11, -1);
        Twins.range("PLACES 0 to 11: miles from", full, (x, n) -> x.miles(n, 5, 9), 0, 11, -1);
        Twins.range("PLACES 0 to 11: move", full, (x, n) -> x.move(5, n), 8, 11, -1);
        Twins.range("PLACES 0 to 11: takes", full, (x, n) -> x.takes(7, n, 5, 6) ? 1 : 0, 0, 11, 0);
        Twins.question("PLACES 0 to 11: round", full, (x, n) -> x.round(255, n, -1), 0, 11, -2);
        Twins.question("PLACES 0 to 11: worthy", full, (x, n) -> x.worthy(n, 1, 1), 0, 11, -1);
        Twins.question("LAWS 0 to 7: again", full, (x, n) -> x.again(7, n, 0), 0, 7, -1);
        Twins.question("LAWS 0 to 7: refused", full, (x, n) -> x.refused(n, -1), 0, 7, -1);
        Twins.question("LAWS 0 to 7: newer", full, (x, n) -> x.newer(n, 7), 0, 7, UNTOLD);
        Twins.question("LAWS 0 to 7: old", full, (x, n) -> x.newer(7, n), 0, 7, UNTOLD);
        Twins.question("LAWS 0 to 7: rent", full, (x, n) -> x.rent(n, 7, 0, 0), 0, 7, UNTOLD);
        Twins.range("BOOTHS 0 to 7: move", full, (x, n) -> x.move(n, 11), 0, 7, -1);
        Twins.range("BOOTHS 0 to 7: paper", full, (x, n) -> x.paper(n, 9), 0, 7, -1);
        Twins.range("BOOTHS 0 to 7: strip", full, (x, n) -> x.strip(n, 9, 9), 0, 7, -1);
        Twins.range("BOOTHS 0 to 7: change", full, (x, n) -> x.change(n, 0), 0, 7, -1);
        Twins.range("BOOTHS 0 to 7: empty", full, (x, n) -> x.empty(n), 0, 7, -1);
        Twins.question("BOOTHS 0 to 7: of", full, (x, n) -> x.of(n, 3), 0, 7, -1);
        Twins.question("BOOTHS 0 to 7: spoilt", full, (x, n) -> x.spoilt(n, 0), -1, 7, -1);
        Twins.question("BOOTHS 0 to 7: again", full, (x, n) -> x.again(n, 7, 0), 0, 7, -1);
        Twins.question("BOOTHS 0 to 7: with", full, (x, n) -> x.with(n, 0, 0), 0, 7, -1);
        Twins.question("BOOTHS 0 to 7: finest", full, (x, n) -> x.finest(n, 0), 0, 7, -1);
        Twins.range("BOOTHS 0 to 7: reading", full, (x, n) -> x.reading(n, 0, 0, 0), 0, 7, -1);
        Twins.question("BOOTHS 0 to 7: agree", full, (x, n) -> x.agree(n, 0, 0), 0, 7, 2 * UNTOLD);
        Twins.range("BOOTHS 0 to 7: claim", full, (x, n) -> x.claim(0, n, 0), 0, 7, -1);
        Twins.question("BOOTHS 0 to 7: refused", full, (x, n) -> x.refused(0, n), -1, 7, -1);
        Twins.question("BOOTHS 0 to 7: rent", full, (x, n) -> x.rent(0, n, 0, 0), 0, 7, UNTOLD);
        Twins.question("BOOTHS 0 to 7: cheapest", full, (x, n) -> x.cheapest(n, 0, 0), 0, 7, -1);
        Twins.question("BOOTHS 0 to 7: sets", full, (x, n) -> x.round(n, 0, -1), 0, 255, -2);
        Twins.range("BOOTHS 0 to 7: call", full, (x, n) -> x.call(n, 9), 0, 7, -1);
        Twins.range("BOOTHS 0 to 7: takes", full, (x, n) -> x.takes(n, 11, 5, 6) ? 1 : 0, 0, 7, 0);
        Twins.question("BOOTHS 0 to 7: placed", full, (x, n) -> x.placed(false, 1, n), -1, 7, UNTOLD);
    }

    /** NOW is DAY 399, on which booth 2 came. */
    private static void lastDay() {
        Twins.Past last = Towns::lastDay;
        Twins.range("clock on the last DAY", last, (x, n) -> x.clock(n) ? 1 : 0, 399, 399, 0);
        Twins.question("with on the last DAY", last, (x, n) -> x.with(2, 0, n), 399, 399, -1);
        Twins.question("with up to the last DAY", last, (x, n) -> x.with(1, 0, n), 2, 399, -1);
        Twins.range("reading up to the last DAY", last, (x, n) -> x.reading(2, n, 5, 5), 0, 399, -1);
        Twins.range("claim up to the last DAY", last, (x, n) -> x.claim(2, 2, n), 0, 399, -1);
        Twins.question("rent up to the last DAY", last, (x, n) -> x.rent(0, 2, n, 399), 0, 399, UNTOLD);
        Twins.range("heat whatever is NOW", last, (x, n) -> x.heat(n, 5), 0, 399, -1);
        Twins.question("finest on the last DAY", last, (x, n) -> x.finest(n, 0), 0, 2, -1);
    }

    /** No PLACES, no texts: nothing that needs one is taken. */
    private static void newObject() {
        Twins.Past none = x -> { };
        Twins.refused("new: miles", none, x -> x.miles(0, 1, 5), -1);
        Twins.refused("new: booth", none, x -> x.booth(0, 5, 0), -1);
        Twins.refused("new: move", none, x -> x.move(0, 0), -1);
        Twins.refused("new: paper", none, x -> x.paper(0, 5), -1);
        Twins.refused("new: strip", none, x -> x.strip(0, 5, 5), -1);
        Twins.refused("new: change", none, x -> x.change(0, 0), -1);
        Twins.refused("new: empty", none, x -> x.empty(0), -1);
        Twins.refused("new: of", none, x -> x.of(0, 0), -1);
        Twins.refused("new: spoilt of a booth", none, x -> x.spoilt(0, 0), -1);
        Twins.refused("new: again", none, x -> x.again(0, 0, 0), -1);
        Twins.refused("new: with", none, x -> x.with(0, 0, 0), -1);
        Twins.refused("new: finest", none, x -> x.finest(0, 0), -1);
        Twins.refused("new: reading", none, x -> x.reading(0, 0, 0, 0), -1);
        Twins.refused("new: agree", none, x -> x.agree(0, 0, 0), 2 * UNTOLD);
        Twins.refused("new: claim", none, x -> x.claim(0, 0, 0), -1);
        Twins.refused("new: fair", none, x -> x.fair(0, 0), -1);
        Twins.refused("new: refused", none, x -> x.refused(0, -1), -1);
        Twins.refused("new: newer", none, x -> x.newer(0, 0), UNTOLD);
        Twins.refused("new: rent", none, x -> x.rent(0, 0, 0, 0), UNTOLD);
        Twins.refused("new: cheapest", none, x -> x.cheapest(0, 0, 0), -1);
        Twins.refused("new: round", none, x -> x.round(0, 0, -1), -2);
        Twins.refused("new: call", none, x -> x.call(0, 0), -1);
        Twins.refused("new: worthy", none, x -> x.worthy(0, 0, 0), -1);
        Twins.refused("new: takes", none, x -> x.takes(0, 0, 0, 0) ? 1 : 0, 0);
        Twins.refused("new: placed of a booth", none, x -> x.placed(false, 0, 0), UNTOLD);
        Twins.range("new: end", none, (x, n) -> x.end(n), 0, 0, -1);
        for (int k = 0; k < 4; k++) {
            int n = k;
            Twins.refused("new: back to image " + n, none, x -> x.back(n), -1);
        }
        Twins.question("new: spoilt of all", none, (x, n) -> x.spoilt(-1, n), 0, 5, -1);
        Twins.question("new: suspect", none, (x, n) -> x.suspect(n), 0, 2, -1);
        Twins.range("new: clock", none, (x, n) -> x.clock(n) ? 1 : 0, 0, 399, 0);
        Twins.range("new: heat", none, (x, n) -> x.heat(n, 0), 0, 399, -1);
    }
}
