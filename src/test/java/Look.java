import java.util.ArrayList;
import java.util.List;

/** What an object answers to many calls: questions first, then what changes it, then what its images keep. */
final class Look {
    interface Call {
        long on(Counted x);
    }

    private final Counted x;
    private final List<String> seen = new ArrayList<>();
    private int left;

    private Look(Counted x, int most) {
        this.x = x;
        // three of the calls below ask for a count first
        left = most - 3;
    }

    /** The answers to at most so many calls. */
    static List<String> at(Counted x, int most, boolean images) {
        Look look = new Look(x, most);
        look.counts();
        look.strips();
        look.letters();
        look.plans();
        look.told();
        look.goOn();
        look.counts();
        if (images) {
            look.images();
        }
        return look.seen;
    }

    private void see(String call, Call one) {
        if (left > 0) {
            left--;
            seen.add(call + " answered " + one.on(x));
        }
    }

    private void counts() {
        for (int what = 0; what <= 8; what++) {
            int n = what;
            see("count " + n, x -> x.count(n));
        }
        for (int what = 0; what <= 7; what++) {
            int n = what;
            see("of 0 " + n, x -> x.of(0, n));
            see("of 1 " + n, x -> x.of(1, n));
        }
        see("of 7 3", x -> x.of(7, 3));
        see("of 7 5", x -> x.of(7, 5));
    }

    private void strips() {
        for (int by = 0; by <= 5; by++) {
            int n = by;
            see("spoilt of all " + n, x -> x.spoilt(-1, n));
        }
        see("spoilt 1 0", x -> x.spoilt(1, 0));
        see("again 0 1 2", x -> x.again(0, 1, 2));
        see("again 1 0 0", x -> x.again(1, 0, 0));
        see("again 0 2 1", x -> x.again(0, 2, 1));
        see("with 0 0 2", x -> x.with(0, 0, 2));
        see("with 1 2 4", x -> x.with(1, 2, 4));
        see("finest 0 0", x -> x.finest(0, 0));
        see("finest 1 1", x -> x.finest(1, 1));
    }

    private void letters() {
        see("agree 0 399 0", x -> x.agree(0, 399, 0));
        see("agree 0 399 1", x -> x.agree(0, 399, 1));
        see("agree 0 3 1", x -> x.agree(0, 3, 1));
        see("agree 1 399 1", x -> x.agree(1, 399, 1));
        for (int claim = 0; claim < 5; claim++) {
            int n = claim;
            see("fair " + n, x -> x.fair(n, 0));
            see("paid " + n, x -> x.fair(n, 1));
        }
        for (int what = 0; what <= 2; what++) {
            int n = what;
            see("suspect " + n, x -> x.suspect(n));
        }
        see("refused 0", x -> x.refused(0, -1));
        see("refused 1", x -> x.refused(1, 0));
        see("newer 0 1", x -> x.newer(0, 1));
        see("rent 0 0 0 399", x -> x.rent(0, 0, 0, 399));
        see("cheapest 1 0 5", x -> x.cheapest(1, 0, 5));
    }

    private void plans() {
        see("round 3 2 -1", x -> x.round(3, 2, -1));
        see("round 3 2 0", x -> x.round(3, 2, 0));
        see("worthy 2 1 0", x -> x.worthy(2, 1, 0));
        see("worthy 2 1 1", x -> x.worthy(2, 1, 1));
        for (int what = -1; what <= 1; what++) {
            int n = what;
            see("placed by least " + n, x -> x.placed(false, 3, n));
            see("placed by most " + n, x -> x.placed(true, 3, n));
        }
    }

    /** What is told anew answers what it was. */
    private void told() {
        see("miles 0 1", x -> x.miles(0, 1, 1));
        see("miles 3 2", x -> x.miles(3, 2, 2));
        see("heat 0", x -> x.heat(0, 31));
        see("heat 399", x -> x.heat(399, 2));
        see("heat 4", x -> x.heat(4, 33));
        see("call 0", x -> x.call(0, 1));
        see("call 1", x -> x.call(1, 1));
        see("law of the tape", Counted::law);
        see("paper 0", x -> x.paper(0, 2));
        see("paper 1", x -> x.paper(1, 1));
        see("place", x -> x.place(56));
        see("its miles", x -> x.miles(4, 0, 1));
        see("booth", x -> x.booth(2, 9, 1));
        see("move", x -> x.move(0, 3));
        see("takes", x -> x.takes(1, 3, 2, 9999) ? 1 : 0);
        see("placed by most", x -> x.placed(true, 0, 1));
    }

    private void goOn() {
        see("strip 0", x -> x.strip(0, 14, 4));
        see("strip 0 of head 13", x -> x.strip(0, 13, 4));
        see("strip 1", x -> x.strip(1, 60, 4));
        see("change 0 2", x -> x.change(0, 2));
        see("change 1 1", x -> x.change(1, 1));
        see("empty 1", x -> x.empty(1));
        see("claim", x -> x.claim(3, 0, 4));
        see("its fairness", x -> x.fair(x.count(7) - 1, 0));
        see("reading", x -> x.reading(0, x.count(0), 9, 9));
        see("clock", x -> x.clock(x.count(0) + 1) ? 1 : 0);
        see("again 0 2 4, heats told anew", x -> x.again(0, 2, 4));
        see("again 0 1 2", x -> x.again(0, 1, 2));
        see("with 0 1 3", x -> x.with(0, 1, 3));
        see("suspect", x -> x.suspect(0));
    }

    private void images() {
        for (int k = 0; k < 4; k++) {
            int n = k;
            see("back " + n, x -> x.back(n));
            for (int what = 1; what <= 7; what++) {
                int w = what;
                see("count " + w + " of image " + n, x -> x.count(w));
            }
            see("of 0 0 of image " + n, x -> x.of(0, 0));
            see("of 0 4 of image " + n, x -> x.of(0, 4));
            see("miles of image " + n, x -> x.miles(0, 1, 7));
            see("heat of image " + n, x -> x.heat(4, 7));
        }
    }
}
