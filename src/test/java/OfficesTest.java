/** Part V by its sentences: heads that are REFUSED, a NEW LAW beside an old one, RENT, the CHEAPEST LAW. */
public final class OfficesTest {
    private static final int UNTOLD = -1000000000;
    private static final int MOST = 99999999;

    public static void main(String[] args) {
        goodOnes();
        wordsOfRefuse();
        refusedOfBooths();
        newBesideOld();
        rentDays();
        rentWords();
        rentHeld();
        rentNumbers();
        cheapestOfSeveral();
        cheapestNumbers();
        Check.end();
    }

    /** "good STRIPS by whose head and stool refuse HOLDS". */
    private static void goodOnes() {
        Counted x = Towns.house("dark head=9;off head=8;weak 0 999;tire 0 2 if head=7;refuse head>5 and stool<4;refuse stool=20", 10);
        Check.due("none", x.refused(0, 0), 0);
        x.strip(0, 9, 3);
        x.strip(0, 8, 3);
        Check.due("SPOILT ones", x.refused(0, 0), 0);
        x.strip(0, 6, 3);
        Check.due("a good one", x.refused(0, 0), 1);
        x.strip(0, 6, 4);
        x.strip(0, 5, 3);
        Check.due("neither head nor stool", x.refused(0, 0), 1);
        x.strip(0, 1, 20);
        Check.due("of some CLAUSE", x.refused(0, 0), 2);
        x.strip(0, 7, 0);
        Check.due("it was good", x.refused(0, 0), 3);
        x.strip(0, 7, 0);
        Check.due("SPOILT by BATH 0", x.refused(0, 0), 3);
        Check.due("of all", x.refused(0, -1), 3);
    }

    /** "(light, place of the BOOTH; day, heat of the STRIP's; strips, box 0)"; strength 0. */
    private static void wordsOfRefuse() {
        String[] tests = {"light=50", "light=60", "place=0", "place=1", "day=0", "day=2", "day=3", "heat=33", "heat=15",
            "strips=0", "strips>0", "box=0", "box>0", "strength=0"};
        int[] due = {0, 3, 0, 3, 1, 2, 0, 2, 1, 3, 0, 3, 0, 3};
        for (int i = 0; i < tests.length; i++) {
            Counted x = Towns.house("refuse " + tests[i], 10);
            x.strip(0, 1, 1);
            x.clock(2);
            x.strip(0, 1, 1);
            x.strip(0, 1, 1);
            x.clock(3);
            x.heat(2, 33);
            x.move(0, 1);
            Check.due("refuse " + tests[i], x.refused(0, 0), due[i]);
        }
    }

    /** "(of a BOOTH, or all)", by any LAW. */
    private static void refusedOfBooths() {
        Counted x = Towns.house("dark head=9", 10);
        Check.law(x, "refuse place=1;refuse head=4");
        Check.due("no STRIPS", x.refused(1, -1), 0);
        x.booth(1, 5, 0);
        x.paper(1, 9);
        x.strip(0, 4, 1);
        x.strip(0, 5, 1);
        x.strip(1, 5, 1);
        x.strip(1, 4, 1);
        x.strip(1, 9, 1);
        Check.due("of BOOTH 0", x.refused(1, 0), 1);
        Check.due("of BOOTH 1", x.refused(1, 1), 2);
        Check.due("of all", x.refused(1, -1), 3);
        Check.due("without refuse", x.refused(0, -1), 0);
        Counted y = Towns.house("refuse 1=1", 10);
        Check.law(y, "refuse 1=2");
        Check.due("none there is", y.refused(0, 0), 0);
        Check.due("none there is", y.newer(0, 1), 0);
        y.strip(0, 1, 1);
        y.strip(0, 99, 20);
        Check.due("all there are", y.refused(0, 0), 2);
        Check.due("all there are", y.newer(0, 1), 20);
        Check.due("all there are", y.newer(1, 0), -20);
        Check.due("no such BOOTH", x.refused(1, 2), -1);
        Check.due("no such BOOTH", x.refused(1, -2), -1);
        Check.due("no such LAW", x.refused(2, 0), -1);
    }

    /** "prices of BOOTHS of all STRIPS that are REFUSED by the one and not by the other, less the same the other way". */
    private static void newBesideOld() {
        Counted x = Towns.house("dark head=9", 10);
        Check.law(x, "refuse head=1 or head=2 or head=9");
        Check.law(x, "refuse head=2 or head=3");
        x.booth(1, 999, 0);
        x.paper(1, 9);
        Check.due("no STRIPS", x.newer(1, 2), 0);
        x.strip(0, 9, 1);
        Check.due("a SPOILT one", x.newer(1, 2), 0);
        x.strip(0, 2, 1);
        Check.due("REFUSED by both", x.newer(1, 2), 0);
        x.strip(0, 4, 1);
        Check.due("REFUSED by none", x.newer(1, 2), 0);
        x.strip(0, 1, 1);
        Check.due("by the one", x.newer(1, 2), 10);
        Check.due("the other way round", x.newer(2, 1), -10);
        x.strip(1, 3, 1);
        Check.due("by the other", x.newer(1, 2), 10 - 999);
        Check.due("the other way round", x.newer(2, 1), 999 - 10);
        Check.due("beside a LAW without refuse", x.newer(1, 0), 20);
        Check.due("a LAW without refuse", x.newer(0, 2), -10 - 999);
        Check.due("itself", x.newer(2, 2), 0);
        Check.due("no such LAW", x.newer(3, 0), UNTOLD);
        Check.due("no such LAW", x.newer(0, 3), UNTOLD);
        Check.due("no such LAW", x.newer(0, -1), UNTOLD);
    }

    /** "of a BOOTH from a DAY to another one: strips: STRIPS in it, box: the price times these". */
    private static void rentDays() {
        Counted x = Towns.house("rent strips*10000+box;dark head=9", 7);
        x.booth(1, 100, 0);
        x.paper(1, 9);
        int[] strips = {1, 2, 0, 3};
        for (int day = 0; day < 4; day++) {
            x.clock(day);
            for (int i = 0; i < strips[day]; i++) {
                x.strip(0, 9 - i % 2, 1);
            }
        }
        x.strip(1, 1, 1);
        x.empty(0);
        for (int from = 0; from < 4; from++) {
            int in = 0;
            for (int to = from; to < 4; to++) {
                in += strips[to];
                Check.due("rent from " + from + " to " + to, x.rent(0, 0, from, to), in * 10007);
            }
        }
        Check.due("up to DAY 399", x.rent(0, 0, 0, 399), 6 * 10007);
        Check.due("what is to come", x.rent(0, 0, 4, 399), 0);
        Check.due("of BOOTH 1", x.rent(0, 1, 0, 3), 10100);
        Check.due("of BOOTH 1 ahead", x.rent(0, 1, 0, 2), 0);
    }

    /** "day, heat: of the last DAY"; light, place of the BOOTH; "by a LAW", that of another BOOTH too. */
    private static void rentWords() {
        String[] sums = {"day", "heat", "light", "place", "head", "stool", "strength"};
        int[] due = {5, 33, 60, 1, 0, 0, 0};
        for (int i = 0; i < sums.length; i++) {
            Counted x = Towns.house("dark 1=2", 7);
            Check.law(x, "rent " + sums[i]);
            x.strip(0, 9, 9);
            x.heat(5, 33);
            x.move(0, 1);
            Check.due("rent " + sums[i], x.rent(1, 0, 0, 5), due[i]);
            Check.due("rent of one DAY " + sums[i], x.rent(1, 0, 5, 5), due[i]);
            Check.due("0 without", x.rent(0, 0, 0, 5), 0);
        }
    }

    /** "(0 without; held to -99999999 to 99999999)". */
    private static void rentHeld() {
        String[] sums = {"9999*10001", "9999*10001+1", "9999*10001-1", "0-9999*10001", "0-9999*10001-1", "1-9999*10001"};
        int[] due = {MOST, MOST, MOST - 1, -MOST, -MOST, 1 - MOST};
        for (int i = 0; i < sums.length; i++) {
            Counted x = Towns.house("rent " + sums[i], 7);
            Check.due("rent " + sums[i], x.rent(0, 0, 0, 0), due[i]);
            Check.due("CHEAPEST", x.cheapest(0, 0, 0), 0);
        }
    }

    /** rent: "-1000000000 without these (from above to, too)". */
    private static void rentNumbers() {
        Counted x = Towns.house("rent 5", 7);
        Check.due("one DAY", x.rent(0, 0, 3, 3), 5);
        Check.due("from above to", x.rent(0, 0, 4, 3), UNTOLD);
        Check.due("DAYS 0 to 399", x.rent(0, 0, 0, 399), 5);
        Check.due("DAY 399", x.rent(0, 0, 399, 399), 5);
        Check.due("DAY 400", x.rent(0, 0, 0, 400), UNTOLD);
        Check.due("DAYS 400", x.rent(0, 0, 400, 400), UNTOLD);
        Check.due("DAY -1", x.rent(0, 0, -1, 5), UNTOLD);
        Check.due("DAYS -1", x.rent(0, 0, -1, -1), UNTOLD);
        Check.due("no such LAW", x.rent(1, 0, 0, 0), UNTOLD);
        Check.due("no such BOOTH", x.rent(0, 1, 0, 0), UNTOLD);
        Check.due("not of all BOOTHS", x.rent(0, -1, 0, 0), UNTOLD);
    }

    /** "the LAW with the least RENT, of several the least". */
    private static void cheapestOfSeveral() {
        Counted x = Towns.house("rent 5", 7);
        Check.due("the one", x.cheapest(0, 0, 0), 0);
        Check.law(x, "rent 5");
        Check.due("of two the least", x.cheapest(0, 0, 0), 0);
        Check.law(x, "rent 4 if day>2;rent 6");
        Check.due("6", x.cheapest(0, 0, 2), 0);
        Check.due("4", x.cheapest(0, 0, 3), 2);
        Check.law(x, "rent 4");
        Check.due("the third of four", x.cheapest(0, 0, 3), 2);
        Check.due("the last", x.cheapest(0, 0, 2), 3);
        Check.law(x, "dark 1=1");
        Check.due("0 without", x.cheapest(0, 0, 3), 4);
        Check.law(x, "rent 0-strips*9");
        Check.due("0 as well", x.cheapest(0, 0, 3), 4);
        x.strip(0, 1, 1);
        Check.due("below 0", x.cheapest(0, 0, 3), 5);
        Check.due("without that STRIP", x.cheapest(0, 1, 3), 4);
        Check.law(x, "rent 0-99999*99999");
        Check.law(x, "rent 0-99999*99998");
        Check.due("both held", x.cheapest(0, 0, 3), 6);
    }

    /** cheapest: "NONE without these". */
    private static void cheapestNumbers() {
        Counted x = Towns.house("rent 5", 7);
        Check.due("from above to", x.cheapest(0, 4, 3), -1);
        Check.due("DAYS 0 to 399", x.cheapest(0, 0, 399), 0);
        Check.due("DAY 399", x.cheapest(0, 399, 399), 0);
        Check.due("DAY 400", x.cheapest(0, 0, 400), -1);
        Check.due("DAYS 400", x.cheapest(0, 400, 400), -1);
        Check.due("DAYS -1", x.cheapest(0, -1, -1), -1);
        Check.due("no such BOOTH", x.cheapest(1, 0, 0), -1);
        Check.due("not of all BOOTHS", x.cheapest(-1, 0, 0), -1);
    }
}
