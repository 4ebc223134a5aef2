/** Part III by its sentences: AGAIN by a LAW, WITH one CHANGE more, the FINEST DAY. */
public final class PastTest {
    public static void main(String[] args) {
        fromItsBeginning();
        inItsOrder();
        asTheyWereThen();
        daysOfAnEmptyBox();
        asToldNow();
        spoiltByEach();
        ofItsOwnStrips();
        nothingIsChanged();
        withFromItsDay();
        withAheadOfAll();
        withByAny();
        finestOfSeveral();
        finestAskedFirst();
        finestEdges();
        Check.end();
    }

    private static void tally(String what, Counted x, int booth, int law, int... due) {
        for (int by = 0; by < 6; by++) {
            Check.due(what + ", by " + by, x.again(booth, law, by), due[by]);
        }
    }

    /** "from its beginning": no DAY ahead of that on which it came ages it, and its BATHS are new. */
    private static void fromItsBeginning() {
        Counted x = new Counted();
        x.place(1);
        Check.law(x, "tire 0 1000");
        Check.law(x, "age 0 1;weak 0 999");
        Check.law(x, "age 0 1;weak 0 998");
        x.clock(5);
        x.booth(0, 1, 0);
        x.paper(0, 9);
        x.strip(0, 1, 1);
        tally("1000 on its own DAY", x, 0, 1, 1, 0, 0, 0, 0, 0);
        x.clock(6);
        x.strip(0, 1, 1);
        tally("999 a DAY behind it", x, 0, 1, 2, 0, 0, 0, 0, 0);
        x.clock(7);
        x.strip(0, 1, 1);
        tally("998 two DAYS behind it", x, 0, 1, 2, 1, 0, 0, 0, 0);
        tally("998 isn't below 998", x, 0, 2, 3, 0, 0, 0, 0, 0);
    }

    /** "all that came in its order (STRIPS, CHANGES, DAYS)". */
    private static void inItsOrder() {
        Counted x = Towns.house("rent 1", 10);
        Check.law(x, "tire 1 100;weak 1 900");
        Check.law(x, "tire 1 100;weak 1 901;age 1 1");
        x.strip(0, 1, 1);
        x.strip(0, 1, 1);
        tally("1000, 900", x, 0, 1, 2, 0, 0, 0, 0, 0);
        x.change(0, 1);
        x.strip(0, 1, 1);
        x.change(0, 0);
        x.change(0, 2);
        x.strip(0, 1, 1);
        x.strip(0, 1, 1);
        tally("1000, 900, 800 behind the CHANGE", x, 0, 1, 4, 0, 1, 0, 0, 0);
        x.change(0, 1);
        x.clock(1);
        x.strip(0, 1, 1);
        x.change(0, 1);
        x.strip(0, 1, 1);
        tally("1000, 1000 behind two CHANGES", x, 0, 1, 6, 0, 1, 0, 0, 0);
        tally("900, 900, 800, none by the age", x, 0, 2, 4, 0, 3, 0, 0, 0);
    }

    /** "strips and box as they were then". */
    private static void asTheyWereThen() {
        Counted x = Towns.house("rent 1", 10);
        Check.law(x, "dark strips=2;off box=20;off box=0;age 0 box;age 1 strips*100;weak 0 980;weak 1 600");
        x.strip(0, 1, 1);
        tally("0, 0", x, 0, 1, 0, 0, 0, 0, 0, 1);
        x.strip(0, 1, 1);
        tally("1, 10", x, 0, 1, 1, 0, 0, 0, 0, 1);
        x.strip(0, 1, 1);
        tally("2, 20", x, 0, 1, 1, 0, 0, 0, 1, 1);
        x.empty(0);
        x.clock(1);
        x.strip(0, 1, 1);
        tally("3, 0: BATH 0 is 1000, BATH 1 700", x, 0, 1, 1, 0, 0, 0, 1, 2);
        x.clock(3);
        x.strip(0, 1, 1);
        tally("4, 10: BATH 0 is 980, BATH 1 0", x, 0, 1, 1, 0, 1, 0, 1, 2);
        x.empty(0);
        x.change(0, 1);
        x.strip(0, 1, 1);
        tally("5, 0", x, 0, 1, 1, 0, 1, 0, 1, 3);
        x.clock(4);
        x.strip(0, 1, 1);
        tally("6, 10: BATH 0 is 970", x, 0, 1, 1, 1, 1, 0, 1, 3);
    }

    /** strips and box of DAYS ahead of all STRIPS, and behind emptyings, of one coin too. */
    private static void daysOfAnEmptyBox() {
        Counted x = Towns.house("rent 1", 1);
        Check.law(x, "age 0 100 if strips=0;age 1 100 if box=0;age 2 100 if box=1;weak 0 900;weak 1 900;weak 2 900");
        x.clock(1);
        x.strip(0, 1, 1);
        tally("a DAY without STRIPS: 900, 900, 1000", x, 0, 1, 1, 0, 0, 0, 0, 0);
        x.clock(2);
        x.strip(0, 1, 1);
        tally("a DAY with a coin: 900, 900, 900", x, 0, 1, 2, 0, 0, 0, 0, 0);
        x.empty(0);
        x.strip(0, 1, 1);
        x.empty(0);
        x.clock(3);
        x.strip(0, 1, 1);
        tally("a DAY of an emptied BOX: 900, 800, 900", x, 0, 1, 3, 0, 1, 0, 0, 0);
        x.change(0, 1);
        x.clock(4);
        x.strip(0, 1, 1);
        tally("a DAY with a coin: 900, 1000, 800", x, 0, 1, 3, 0, 1, 1, 0, 0);
        Counted y = Towns.house("age 0 1 if strips=0 and box=0;weak 0 998", 1);
        y.clock(3);
        y.strip(0, 1, 1);
        Check.due("997", y.with(0, 0, 0), 1);
        Check.due("998", y.with(0, 0, 1), 0);
        Counted z = Towns.house("rent 1", 1);
        Check.law(z, "age 0 strips+1;age 1 box+1;weak 0 999;weak 1 999");
        z.clock(1);
        z.strip(0, 1, 1);
        tally("999, 999", z, 0, 1, 1, 0, 0, 0, 0, 0);
        z.clock(2);
        z.strip(0, 1, 1);
        tally("997, 997", z, 0, 1, 1, 1, 0, 0, 0, 0);
        z.change(0, 0);
        z.change(0, 1);
        z.empty(0);
        z.clock(3);
        z.strip(0, 1, 1);
        tally("997, 999", z, 0, 1, 1, 2, 0, 0, 0, 0);
        z.change(0, 0);
        z.strip(0, 1, 1);
        tally("1000, 999", z, 0, 1, 2, 2, 0, 0, 0, 0);
    }

    /** "light and place as now, HEATS as told now", by its own LAW too. */
    private static void asToldNow() {
        Counted x = Towns.house("dark light=60;off heat=9;weak 2 900;age 2 100 if heat=8;age 2 101 if place=1", 10);
        x.strip(0, 1, 1);
        x.clock(1);
        x.strip(0, 1, 1);
        tally("as it was", x, 0, 0, 2, 0, 0, 0, 0, 0);
        x.heat(0, 9);
        tally("heat of DAY 0", x, 0, 0, 1, 0, 0, 0, 0, 1);
        x.heat(1, 9);
        tally("heat of both", x, 0, 0, 0, 0, 0, 0, 0, 2);
        x.heat(0, 8);
        x.heat(1, 15);
        tally("900 isn't below 900", x, 0, 0, 2, 0, 0, 0, 0, 0);
        x.move(0, 1);
        tally("light 60", x, 0, 0, 0, 0, 0, 0, 2, 0);
        x.heat(0, 15);
        tally("899 by its PLACE", x, 0, 0, 0, 0, 0, 1, 1, 0);
        x.move(0, 0);
        tally("as it was", x, 0, 0, 2, 0, 0, 0, 0, 0);
        Check.due("what they were SPOILT by stays", x.spoilt(0, 0), 2);
    }

    /** "how many STRIPS are SPOILT by each": 1, 2, 3, 4, 5, 0. */
    private static void spoiltByEach() {
        Counted x = Towns.house("rent 1", 10);
        Check.law(x, "weak 0 999;weak 1 999;weak 2 999;tire 0 2 if head=1;tire 1 2 if head=2;tire 2 2 if head=3;"
            + "dark stool=4;off stool=5;off stool=4");
        for (int i = 0; i < 3; i++) {
            x.strip(0, 1 + i, 0);
            x.strip(0, 4, 4 + i % 2);
            x.change(0, i);
        }
        x.strip(0, 9, 4);
        x.strip(0, 9, 4);
        x.strip(0, 9, 5);
        tally("each", x, 0, 1, 3, 1, 1, 1, 2, 1);
        x.strip(0, 2, 0);
        x.strip(0, 1, 0);
        x.strip(0, 9, 4);
        tally("the first BATH", x, 0, 1, 4, 2, 2, 1, 2, 1);
    }

    /** Of a BOOTH alone; a BOOTH without STRIPS has none. */
    private static void ofItsOwnStrips() {
        Counted x = Towns.house("rent 1", 10);
        Check.law(x, "tire 0 100;weak 0 950;off strips=0;off box>12");
        x.booth(1, 5, 1);
        x.paper(1, 9);
        tally("no STRIPS", x, 0, 1, 0, 0, 0, 0, 0, 0);
        x.strip(1, 1, 1);
        x.strip(0, 1, 1);
        x.change(1, 0);
        x.strip(1, 1, 1);
        x.strip(0, 1, 1);
        x.empty(1);
        tally("of BOOTH 0", x, 0, 1, 0, 1, 0, 0, 0, 1);
        tally("of BOOTH 1", x, 1, 1, 1, 0, 0, 0, 0, 1);
        tally("of BOOTH 1 by LAW 0", x, 1, 0, 2, 0, 0, 0, 0, 0);
    }

    /** What would have been changes nothing of what was. */
    private static void nothingIsChanged() {
        for (int law = 0; law < 3; law++) {
            int n = law;
            Twins.asked("again by LAW " + n, Towns::some, x -> x.again(0, n, 0), -1);
            Twins.asked("with of BATH " + n, Towns::some, x -> x.with(0, n, 3), -1);
            Twins.asked("finest of BATH " + n, Towns::some, x -> x.finest(0, n), -1);
        }
    }

    /** with: "NONE without these (a DAY ahead of that on which it came, or behind NOW, too)". */
    private static void withFromItsDay() {
        Counted x = new Counted();
        x.place(1);
        Check.law(x, "tire 0 100;weak 0 950");
        x.clock(3);
        x.booth(0, 1, 0);
        x.paper(0, 9);
        Check.due("no STRIPS", x.with(0, 0, 3), 0);
        x.strip(0, 1, 1);
        x.strip(0, 1, 1);
        x.clock(5);
        x.strip(0, 1, 1);
        int[] due = {-1, -1, -1, 2, 1, 1, -1};
        for (int day = 0; day < 7; day++) {
            Check.due("with on DAY " + day, x.with(0, 0, day), due[day]);
        }
        x.clock(6);
        Check.due("DAY 6 is NOW", x.with(0, 0, 6), 2);
        Check.due("DAY 7 is behind NOW", x.with(0, 0, 7), -1);
    }

    /** "At the beginning of a DAY: ahead of all that came on it or behind it", behind the age of the DAY ahead. */
    private static void withAheadOfAll() {
        Counted x = Towns.house("age 1 50;tire 1 100;weak 1 900", 10);
        x.strip(0, 1, 1);
        x.strip(0, 1, 1);
        x.clock(1);
        Check.due("750", x.strip(0, 1, 1), 2);
        Check.due("650", x.strip(0, 1, 1), 2);
        x.change(0, 1);
        Check.due("1000", x.strip(0, 1, 1), 0);
        x.clock(2);
        Check.due("850", x.strip(0, 1, 1), 2);
        Check.due("750", x.strip(0, 1, 1), 2);
        Check.due("on DAY 0", x.with(0, 1, 0), 4);
        Check.due("on DAY 1: 1000, 900", x.with(0, 1, 1), 2);
        Check.due("on DAY 2: 1000, 900", x.with(0, 1, 2), 2);
        Check.due("of another BATH", x.with(0, 0, 1), 4);
        Check.due("of another BATH", x.with(0, 2, 1), 4);
        x.clock(3);
        Check.due("on DAY 3", x.with(0, 1, 3), 4);
    }

    /** "by its own LAW, likewise: how many STRIPS would be SPOILT (by any)". */
    private static void withByAny() {
        Counted x = Towns.house("weak 0 999;weak 1 999;weak 2 999;tire 0 2 if head=1;tire 1 2 if head=2;tire 2 2 if head=3;"
            + "dark stool=4;off heat=9;age 0 box/5;age 1 0", 10);
        Check.law(x, "rent 1");
        x.strip(0, 9, 4);
        x.strip(0, 1, 0);
        x.clock(1);
        x.strip(0, 2, 0);
        x.clock(2);
        x.strip(0, 3, 0);
        x.strip(0, 9, 0);
        // dark; good; 1 by BATH 0; BATH 0 again, twice
        Check.due("as it was", x.with(0, 0, 0), 4);
        Check.due("BATH 0 on DAY 1: then 994 by the box", x.with(0, 0, 1), 3);
        Check.due("BATH 0 on DAY 2: BATH 1 stays", x.with(0, 0, 2), 4);
        Check.due("BATH 1 on DAY 2: BATH 0 stays", x.with(0, 1, 2), 4);
        x.heat(2, 9);
        Check.due("BATH 0 on DAY 1: then off as HEAT is told", x.with(0, 0, 1), 3);
        x.heat(1, 9);
        Check.due("off on DAY 1", x.with(0, 0, 1), 4);
        x.heat(0, 9);
        Check.due("off on DAY 0", x.with(0, 0, 1), 5);
        Check.due("of 5", x.again(0, 1, 0), 5);
    }

    /** "FINEST DAY: that by which fewest would be, of several the first". */
    private static void finestOfSeveral() {
        Counted x = Towns.house("tire 2 100;weak 2 900", 10);
        int[] strips = {1, 2, 0, 3, 1, 0};
        for (int day = 0; day < 6; day++) {
            x.clock(day);
            for (int i = 0; i < strips[day]; i++) {
                x.strip(0, 1, 1);
            }
        }
        // good are the first two strips, and two from the DAY of a CHANGE on
        int[] due = {5, 4, 3, 3, 4, 5};
        for (int day = 0; day < 6; day++) {
            Check.due("with on DAY " + day, x.with(0, 2, day), due[day]);
        }
        Check.due("the first of DAYS 2 and 3", x.finest(0, 2), 2);
        Check.due("of no use: the first DAY", x.finest(0, 0), 0);
        Check.due("of no use: the first DAY", x.finest(0, 1), 0);
        x.change(0, 2);
        x.strip(0, 1, 1);
        x.clock(6);
        x.strip(0, 1, 1);
        Check.due("CHANGED since", x.finest(0, 2), 2);
        x.strip(0, 1, 1);
        x.strip(0, 1, 1);
        x.strip(0, 1, 1);
        Check.due("one more of DAY 6", x.with(0, 2, 6), 7);
        Check.due("still the first", x.finest(0, 2), 2);
    }

    /** Asked first of all: STRIPS ahead of the DAY, other BATHS, dark and off count as they were. */
    private static void finestAskedFirst() {
        Counted x = Towns.house("tire 0 100;tire 1 100;weak 0 900;weak 1 800;dark head=9", 10);
        x.strip(0, 1, 1);
        x.strip(0, 1, 1);
        x.strip(0, 1, 1);
        x.clock(1);
        x.strip(0, 9, 1);
        x.strip(0, 9, 1);
        x.clock(2);
        x.strip(0, 1, 1);
        // BATH 0 is too weak from the third on, BATH 1 from the fourth on: of no use to the dark ones, or to the last
        Check.due("FINEST of BATH 0", x.finest(0, 0), 0);
        Check.due("FINEST of BATH 2", x.finest(0, 2), 0);
        x.change(0, 1);
        x.strip(0, 1, 1);
        x.strip(0, 1, 1);
        Check.due("FINEST of BATH 0, two of DAY 2", x.finest(0, 0), 2);
        Check.due("FINEST of BATH 1", x.finest(0, 1), 0);
        Counted y = Towns.house("weak 0 900;weak 1 900;tire 0 200 if stool=1;tire 1 200 if stool=2;off head=9", 10);
        y.strip(0, 1, 1);
        y.strip(0, 9, 0);
        y.clock(1);
        y.strip(0, 1, 0);
        y.strip(0, 1, 2);
        y.clock(2);
        y.strip(0, 1, 0);
        y.strip(0, 9, 0);
        Check.due("DAY 1, one of BATH 0", y.finest(0, 0), 1);
        Check.due("none of BATH 1 alone", y.finest(0, 1), 0);
        Check.due("five are SPOILT", y.with(0, 0, 0), 5);
        Check.due("the one of DAY 1 and its next", y.with(0, 0, 1), 3);
    }

    /** "(from the DAY on which the BOOTH came to NOW)". */
    private static void finestEdges() {
        Counted x = new Counted();
        x.place(1);
        Check.law(x, "tire 0 100;weak 0 999;tire 1 1000");
        x.clock(7);
        x.booth(0, 1, 0);
        x.paper(0, 20);
        Check.due("it came NOW", x.finest(0, 0), 7);
        x.strip(0, 1, 1);
        x.strip(0, 1, 1);
        Check.due("of no use on that DAY", x.finest(0, 0), 7);
        x.clock(9);
        Check.due("of no use", x.finest(0, 0), 7);
        x.strip(0, 1, 1);
        Check.due("DAY 8, the first of 8 and 9", x.finest(0, 0), 8);
        Counted y = new Counted();
        y.place(1);
        Check.law(y, "age 0 2;weak 0 999");
        y.booth(0, 1, 0);
        y.paper(0, 9);
        y.clock(398);
        y.strip(0, 1, 1);
        Check.due("DAY 398 is NOW", y.finest(0, 0), 398);
        y.clock(399);
        y.strip(0, 1, 1);
        y.strip(0, 1, 1);
        Check.due("DAY 399 is NOW", y.finest(0, 0), 399);
        Check.due("two of three", y.with(0, 0, 399), 1);
    }
}
