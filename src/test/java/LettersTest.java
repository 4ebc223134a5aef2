/** Part IV by its sentences: READINGS that AGREE, CLAIMS that are FAIR or PAID, SUSPECT and TWICE. */
public final class LettersTest {
    private static final int UNTOLD = -1000000000;

    public static void main(String[] args) {
        readingNumbers();
        knownFromNowOn();
        latestDays();
        toldLast();
        stripsBehindTheOne();
        ofItsBooth();
        agreeNumbers();
        claimNumbers();
        fairEachTakesOne();
        fairOfBoothAndDay();
        paidByStripsAndBox();
        paidByTheDay();
        suspects();
        twice();
        Check.end();
    }

    private static void agrees(String what, Counted x, int known, int strips, int coins) {
        Check.due(what + ", strips", x.agree(0, known, 0), strips);
        Check.due(what + ", coins", x.agree(0, known, 1), coins);
    }

    /** reading: "how many there are; NONE: something is not as told (counter 0 to 99999, coins 0 to 99999999)". */
    private static void readingNumbers() {
        Counted x = Towns.house("rent 1", 10);
        Check.due("on DAY 0", x.reading(0, 0, 0, 0), 1);
        Check.due("behind NOW", x.reading(0, 1, 0, 0), -1);
        x.clock(399);
        Check.due("on DAY 399", x.reading(0, 399, 99999, 99999999), 2);
        Check.due("on DAY 400", x.reading(0, 400, 0, 0), -1);
        Check.due("counter", x.reading(0, 1, 100000, 0), -1);
        Check.due("coins", x.reading(0, 1, 0, 100000000), -1);
        Check.due("READINGS", x.count(6), 2);
        agrees("the greatest", x, 399, 99999, 99999999);
        x.reading(0, 398, 99999, 99999999);
        x.reading(0, 399, 0, 0);
        agrees("the least", x, 399, -99999, -99999999);
    }

    /** "KNOWN from NOW on", also in what is to come. */
    private static void knownFromNowOn() {
        Counted x = Towns.house("rent 1", 10);
        x.clock(2);
        x.reading(0, 0, 1, 1);
        x.clock(5);
        x.reading(0, 1, 4, 8);
        agrees("on DAY 0", x, 0, UNTOLD, UNTOLD);
        agrees("on DAY 1", x, 1, UNTOLD, UNTOLD);
        agrees("on DAY 2", x, 2, UNTOLD, UNTOLD);
        agrees("on DAY 4", x, 4, UNTOLD, UNTOLD);
        agrees("on DAY 5", x, 5, 3, 7);
        agrees("on DAY 6", x, 6, 3, 7);
        agrees("on DAY 399", x, 399, 3, 7);
    }

    /** "that with the latest DAY and that with the latest DAY ahead of this one", in whatever order they are told. */
    private static void latestDays() {
        Counted x = Towns.house("rent 1", 10);
        x.clock(9);
        agrees("none", x, 9, UNTOLD, UNTOLD);
        x.reading(0, 5, 50, 500);
        agrees("one", x, 9, UNTOLD, UNTOLD);
        x.reading(0, 5, 51, 510);
        agrees("two of one DAY", x, 9, UNTOLD, UNTOLD);
        x.reading(0, 2, 20, 200);
        agrees("5 beside 2", x, 9, 31, 310);
        x.reading(0, 8, 80, 800);
        agrees("8 beside 5", x, 9, 29, 290);
        x.reading(0, 0, 1, 1);
        agrees("8 beside 5 still", x, 9, 29, 290);
        x.reading(0, 6, 60, 600);
        agrees("8 beside 6", x, 9, 20, 200);
        x.reading(0, 7, 90, 900);
        agrees("8 beside 7", x, 9, -10, -100);
        x.reading(0, 9, 95, 901);
        agrees("9 beside 8", x, 9, 15, 101);
    }

    /** "(of several the one told last)", "(likewise)". */
    private static void toldLast() {
        Counted x = Towns.house("rent 1", 10);
        x.clock(4);
        x.reading(0, 1, 10, 100);
        x.reading(0, 3, 30, 300);
        x.reading(0, 3, 31, 311);
        agrees("the last of DAY 3", x, 4, 21, 211);
        x.reading(0, 1, 12, 122);
        agrees("the last of DAY 1", x, 4, 19, 189);
        x.clock(5);
        x.reading(0, 3, 40, 400);
        x.reading(0, 1, 0, 0);
        agrees("as KNOWN on DAY 4", x, 4, 19, 189);
        agrees("as KNOWN on DAY 5", x, 5, 40, 400);
        x.reading(0, 3, 30, 300);
        agrees("the last of several on DAY 5", x, 5, 30, 300);
    }

    /** "less STRIPS on the DAYS behind the one up to the other; less the price times these STRIPS". */
    private static void stripsBehindTheOne() {
        Counted x = Towns.house("dark head=9", 7);
        int[] strips = {1, 2, 3, 0, 4, 1};
        for (int day = 0; day < 6; day++) {
            x.clock(day);
            for (int i = 0; i < strips[day]; i++) {
                x.strip(0, 9 - i % 2, 1);
            }
        }
        x.reading(0, 1, 0, 0);
        x.reading(0, 2, 0, 0);
        agrees("those of DAY 2, SPOILT or good", x, 5, -3, -21);
        x.reading(0, 3, 0, 0);
        agrees("none of DAY 3", x, 5, 0, 0);
        x.reading(0, 5, 0, 0);
        agrees("those of DAYS 4, 5", x, 5, -5, -35);
        x.strip(0, 1, 1);
        agrees("as it is asked", x, 5, -6, -42);
        x.reading(0, 5, 6, 42);
        agrees("they AGREE", x, 5, 0, 0);
        Counted y = Towns.house("rent 1", 7);
        y.strip(0, 1, 1);
        y.clock(1);
        y.strip(0, 1, 1);
        y.empty(0);
        y.reading(0, 0, 1, 7);
        y.reading(0, 1, 2, 14);
        Check.due("coins ever, whatever is in the BOX", y.agree(0, 1, 1), 0);
        Check.due("strips", y.agree(0, 1, 0), 0);
    }

    /** READINGS and STRIPS of this BOOTH alone, by its price. */
    private static void ofItsBooth() {
        Counted x = Towns.house("rent 1", 7);
        x.booth(1, 100, 0);
        x.paper(1, 9);
        x.clock(1);
        x.strip(0, 1, 1);
        x.strip(1, 1, 1);
        x.strip(1, 1, 1);
        x.reading(0, 0, 10, 10);
        x.reading(1, 0, 20, 20);
        x.reading(0, 1, 11, 11);
        Check.due("BOOTH 1 has one", x.agree(1, 1, 0), UNTOLD);
        x.reading(1, 1, 26, 226);
        Check.due("BOOTH 0, strips", x.agree(0, 1, 0), 0);
        Check.due("BOOTH 0, coins", x.agree(0, 1, 1), -6);
        Check.due("BOOTH 1, strips", x.agree(1, 1, 0), 4);
        Check.due("BOOTH 1, coins", x.agree(1, 1, 1), 6);
    }

    /** agree: "-1000000000: not two READINGS on unlike DAYS; -2000000000 without these". */
    private static void agreeNumbers() {
        Counted x = Towns.house("rent 1", 7);
        agrees("no READINGS", x, 0, UNTOLD, UNTOLD);
        Check.due("no such BOOTH", x.agree(1, 0, 0), 2 * UNTOLD);
        Check.due("no such BOOTH", x.agree(-1, 0, 0), 2 * UNTOLD);
        Check.due("no such DAY", x.agree(0, 400, 0), 2 * UNTOLD);
        Check.due("no such DAY", x.agree(0, -1, 0), 2 * UNTOLD);
        Check.due("no such what", x.agree(0, 0, 2), 2 * UNTOLD);
        Check.due("no such what", x.agree(0, 0, -1), 2 * UNTOLD);
        agrees("DAY 399", x, 399, UNTOLD, UNTOLD);
    }

    /** claim: "its number"; "by one of 32"; "a DAY (not behind NOW)". */
    private static void claimNumbers() {
        Counted x = Towns.house("rent 1", 7);
        Check.due("the first", x.claim(0, 0, 0), 0);
        Check.due("behind NOW", x.claim(0, 0, 1), -1);
        x.clock(399);
        Check.due("the last of 32", x.claim(31, 0, 399), 1);
        Check.due("a 33rd", x.claim(32, 0, 399), -1);
        Check.due("DAY 400", x.claim(0, 0, 400), -1);
        Check.due("once more", x.claim(31, 0, 399), 2);
        Check.due("CLAIMS", x.count(7), 3);
    }

    private static void fair(String what, Counted x, int... due) {
        for (int claim = 0; claim < due.length; claim++) {
            Check.due(what + ": CLAIM " + claim, x.fair(claim, 0), due[claim]);
        }
    }

    /** "each takes one SPOILT STRIP that none ahead of it took; without one it is not FAIR"; "(as it is asked)". */
    private static void fairEachTakesOne() {
        Counted x = Towns.house("dark head=9;weak 0 900;tire 0 51 if head=8;off head=7", 7);
        x.strip(0, 1, 1);
        for (int i = 0; i < 4; i++) {
            x.claim(i, 0, 0);
        }
        fair("a good strip alone", x, 0, 0, 0, 0);
        x.strip(0, 9, 1);
        fair("one dark", x, 1, 0, 0, 0);
        x.strip(0, 7, 1);
        fair("one off", x, 1, 1, 0, 0);
        x.strip(0, 8, 1);
        x.strip(0, 8, 1);
        fair("two good ones", x, 1, 1, 0, 0);
        x.strip(0, 1, 1);
        fair("one by its BATH", x, 1, 1, 1, 0);
        x.claim(0, 0, 0);
        x.strip(0, 1, 1);
        fair("one more", x, 1, 1, 1, 1, 0);
        x.strip(0, 1, 1);
        fair("one for each", x, 1, 1, 1, 1, 1);
    }

    /** "of that BOOTH and DAY". */
    private static void fairOfBoothAndDay() {
        Counted x = Towns.house("dark head=9", 7);
        x.booth(1, 5, 0);
        x.paper(1, 9);
        x.strip(0, 9, 1);
        x.clock(2);
        x.strip(1, 9, 1);
        x.clock(3);
        x.claim(1, 0, 1);
        x.claim(1, 0, 2);
        x.claim(1, 1, 0);
        x.claim(1, 1, 3);
        x.claim(1, 0, 3);
        fair("no SPOILT STRIP", x, 0, 0, 0, 0, 0);
        x.claim(1, 0, 0);
        x.claim(1, 1, 2);
        Check.due("that of BOOTH 0 on DAY 0", x.fair(5, 0), 1);
        Check.due("that of BOOTH 1 on DAY 2", x.fair(6, 0), 1);
        Check.due("FAIR is PAID", x.fair(6, 1), 1);
        Check.due("not FAIR, not PAID", x.fair(4, 1), 0);
    }

    /** "(strips: its STRIPS on that DAY, box: CLAIMS of the one who claims up to this one, itself counted)". */
    private static void paidByStripsAndBox() {
        Counted x = Towns.house("dark head=9;refund box=2;refund strips=3", 7);
        Check.law(x, "refund box=1");
        x.booth(1, 5, 1);
        x.paper(1, 9);
        x.claim(4, 0, 0);
        x.claim(5, 0, 0);
        x.claim(4, 1, 0);
        x.claim(4, 0, 0);
        x.claim(5, 0, 0);
        x.claim(6, 1, 0);
        int[] due = {0, 0, 0, 0, 1, 1};
        for (int claim = 0; claim < due.length; claim++) {
            Check.due("not FAIR: CLAIM " + claim, x.fair(claim, 0), 0);
            Check.due("PAID: CLAIM " + claim, x.fair(claim, 1), due[claim]);
        }
        x.strip(0, 1, 1);
        x.strip(0, 1, 1);
        x.strip(1, 1, 1);
        Check.due("two STRIPS of BOOTH 0", x.fair(0, 1), 0);
        x.strip(0, 9, 1);
        Check.due("three, good or SPOILT", x.fair(1, 1), 1);
        Check.due("that of BOOTH 1 by its own LAW", x.fair(2, 1), 0);
        Check.due("the SPOILT one", x.fair(0, 0), 1);
        x.clock(1);
        x.claim(7, 0, 1);
        Check.due("none on DAY 1", x.fair(6, 1), 0);
        x.strip(0, 1, 1);
        x.strip(0, 1, 1);
        x.strip(0, 1, 1);
        Check.due("three on DAY 1", x.fair(6, 1), 1);
        x.strip(0, 1, 1);
        Check.due("four on DAY 1", x.fair(6, 1), 0);
        Check.due("three on DAY 0", x.fair(3, 1), 1);
    }

    /** "day: that DAY; heat of it"; light, place of the BOOTH. */
    private static void paidByTheDay() {
        String[] tests = {"day=2", "day=3", "heat=33", "heat=15", "light=50", "light=60", "place=0", "place=1"};
        int[] due = {1, 0, 1, 0, 0, 1, 0, 1};
        for (int i = 0; i < tests.length; i++) {
            Counted x = Towns.house("refund " + tests[i], 7);
            x.clock(3);
            x.claim(0, 0, 2);
            x.heat(2, 33);
            x.move(0, 1);
            Check.due("refund " + tests[i], x.fair(0, 1), due[i]);
            Check.due("FAIR", x.fair(0, 0), 0);
        }
    }

    /** "with most CLAIMS that are not FAIR, of several the least"; "(-2: nobody)", "(0 if nobody)". */
    private static void suspects() {
        Counted x = Towns.house("dark head=9", 7);
        Check.due("nobody", x.suspect(0), -2);
        Check.due("none", x.suspect(1), 0);
        x.strip(0, 9, 1);
        x.claim(30, 0, 0);
        Check.due("nobody: it is FAIR", x.suspect(0), -2);
        Check.due("none", x.suspect(1), 0);
        Check.due("TWICE", x.suspect(2), 0);
        x.claim(31, 0, 0);
        Check.due("the last of 32", x.suspect(0), 31);
        Check.due("one", x.suspect(1), 1);
        x.claim(30, 0, 0);
        Check.due("of several the least", x.suspect(0), 30);
        x.claim(31, 0, 0);
        Check.due("most", x.suspect(0), 31);
        Check.due("two", x.suspect(1), 2);
        x.claim(0, 0, 0);
        x.claim(0, 0, 0);
        Check.due("of several the least", x.suspect(0), 0);
        Check.due("two", x.suspect(1), 2);
        x.strip(0, 9, 1);
        Check.due("of 31 one has become FAIR", x.suspect(0), 0);
        for (int i = 0; i < 5; i++) {
            x.strip(0, 9, 1);
        }
        Check.due("all are FAIR", x.suspect(0), -2);
        Check.due("none", x.suspect(1), 0);
        Counted y = Towns.house("dark head=9", 7);
        y.claim(5, 0, 0);
        Check.due("the first CLAIM", y.suspect(0), 5);
        Check.due("one", y.suspect(1), 1);
        y.claim(4, 0, 0);
        y.claim(6, 0, 0);
        Check.due("of three the least", y.suspect(0), 4);
        y.strip(0, 9, 1);
        Check.due("of two the least", y.suspect(0), 4);
        y.strip(0, 9, 1);
        Check.due("the last CLAIM", y.suspect(0), 6);
    }

    /** "how many CLAIMS are not FAIR, less how many pairs of a BOOTH and a DAY have such a one". */
    private static void twice() {
        Counted x = Towns.house("dark head=9", 7);
        x.booth(1, 5, 0);
        x.clock(2);
        Check.due("none", x.suspect(2), 0);
        x.claim(1, 0, 0);
        Check.due("1 less 1", x.suspect(2), 0);
        x.claim(2, 0, 1);
        Check.due("2 less 2", x.suspect(2), 0);
        x.claim(1, 1, 0);
        Check.due("3 less 3", x.suspect(2), 0);
        x.claim(3, 0, 1);
        Check.due("4 less 3", x.suspect(2), 1);
        x.claim(3, 0, 1);
        x.claim(3, 1, 0);
        Check.due("6 less 3", x.suspect(2), 3);
        x.strip(0, 9, 1);
        x.claim(4, 0, 2);
        Check.due("a FAIR one", x.suspect(2), 3);
        x.claim(4, 0, 2);
        Check.due("7 less 4", x.suspect(2), 3);
        x.claim(4, 0, 2);
        Check.due("8 less 4", x.suspect(2), 4);
        x.strip(0, 9, 1);
        Check.due("7 less 4", x.suspect(2), 3);
        x.strip(0, 9, 1);
        Check.due("6 less 3", x.suspect(2), 3);
    }
}
