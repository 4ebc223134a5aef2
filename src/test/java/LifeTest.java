/** Part II by its sentences: what a STRIP is SPOILT by and takes, DAYS that go by, BATHS that are CHANGED. */
public final class LifeTest {
    public static void main(String[] args) {
        firstNumbers();
        milesBothWays();
        wordsAtTheirBounds();
        paperForStrips();
        inNow();
        strengthsOfTests();
        wordsElsewhere();
        counterAndBoxAhead();
        weakness();
        orderOfSpoilers();
        tireHeld();
        tireByItsOwn();
        whatAStripTakes();
        ageHeld();
        dayThatEnds();
        eachBooth();
        clockEdges();
        changed();
        emptied();
        Check.end();
    }

    private static void strengths(String what, Counted x, int booth, int... due) {
        for (int bath = 0; bath < due.length; bath++) {
            Check.due(what + ", BATH " + bath, x.of(booth, bath), due[bath]);
        }
    }

    /** "NOW (0 at first)", "15 at first", "0 at first", "1000 at first". */
    private static void firstNumbers() {
        Counted x = new Counted();
        for (int what = 0; what <= 8; what++) {
            Check.due("count at first " + what, x.count(what), 0);
        }
        for (int day : new int[] {0, 1, 198, 398, 399}) {
            Check.due("HEAT at first", x.heat(day, 3), 15);
            Check.due("HEAT told", x.heat(day, 3), 3);
        }
        x.place(0);
        x.place(99);
        Check.due("MILES at first", x.miles(1, 0, 3), 0);
        Check.law(x, "rent 1");
        x.booth(1, 999, 0);
        int[] due = {1000, 1000, 1000, 0, 0, 0, 1, 0};
        for (int what = 0; what < 8; what++) {
            Check.due("of a BOOTH at first " + what, x.of(0, what), due[what]);
        }
        Check.due("worth at first", x.call(0, 3), 0);
        Check.due("takes at first", x.placed(true, 0, -1), 0);
        Check.due("without paper", x.strip(0, 1, 1), -1);
    }

    /** "MILES between two PLACES (both ways alike)", each pair its own. */
    private static void milesBothWays() {
        Counted x = new Counted();
        for (int i = 0; i < 12; i++) {
            x.place(1);
        }
        for (int a = 0; a < 12; a++) {
            for (int b = 0; b < a; b++) {
                Check.due("MILES at first", x.miles(a, b, 12 * a + b), 0);
            }
        }
        for (int a = 0; a < 12; a++) {
            for (int b = 0; b < a; b++) {
                Check.due("the other way", x.miles(b, a, 999), 12 * a + b);
                Check.due("as told last", x.miles(a, b, 0), 999);
            }
        }
    }

    /** light 0 and 99, heat 0 and 40, day 0 and 399, place 0 and 11, price 1 and 999, as a LAW is told them. */
    private static void wordsAtTheirBounds() {
        String[] words = {"light", "heat", "day", "place", "box"};
        int[] least = {0, 0, 0, 0, 1};
        int[] most = {99, 40, 399, 11, 999};
        for (int i = 0; i < words.length; i++) {
            Counted x = new Counted();
            for (int place = 0; place < 12; place++) {
                x.place(9 * place);
            }
            Check.law(x, "rent " + words[i]);
            x.heat(0, 0);
            x.heat(399, 40);
            Check.due("BOOTH of price 1", x.booth(0, 1, 0), 0);
            Check.due("BOOTH of price 999", x.booth(11, 999, 0), 1);
            x.paper(0, 1);
            x.paper(1, 1);
            x.strip(0, 1, 1);
            x.strip(1, 1, 1);
            Check.due("the least " + words[i], x.rent(0, 0, 0, 0), least[i]);
            Check.due("the most " + words[i], x.rent(0, 1, 0, 399), most[i]);
        }
    }

    /** "A STRIP in a BOOTH (with paper)": "a paper less". */
    private static void paperForStrips() {
        Counted x = Towns.house("rent 1", 10);
        x.booth(1, 5, 0);
        Twins.refused("no paper", y -> {
            Towns.some(y);
            y.booth(2, 5, 0);
        }, y -> y.strip(2, 5, 5), -1);
        Check.due("no paper", x.strip(1, 5, 5), -1);
        x.paper(1, 2);
        Check.due("the last but one", x.strip(1, 5, 5), 0);
        Check.due("the last", x.strip(1, 5, 5), 0);
        Check.due("no paper", x.strip(1, 5, 5), -1);
        Check.due("paper of another BOOTH", x.of(0, 3), 20);
        Check.due("STRIPS", x.count(4), 2);
        Check.due("BOX", x.of(1, 4), 10);
    }

    /** A STRIP is "in NOW": day, heat of it; light, place of its BOOTH; head 1 to 99, stool 0 to 20. */
    private static void inNow() {
        Counted x = Towns.house("off day=3;off heat=7;off light=60;off place=1 and head=7;dark head=1;dark head=99;"
            + "dark stool=0;dark stool=20", 10);
        x.heat(5, 7);
        x.heat(6, 7);
        int[] due = {0, 0, 0, 5, 0, 5, 5, 0};
        for (int day = 0; day < 8; day++) {
            x.clock(day);
            Check.due("on DAY " + day, x.strip(0, 50, 10), due[day]);
        }
        Check.due("head 1", x.strip(0, 1, 1), 4);
        Check.due("head 2", x.strip(0, 2, 1), 0);
        Check.due("head 98", x.strip(0, 98, 19), 0);
        Check.due("head 99", x.strip(0, 99, 19), 4);
        Check.due("stool 0", x.strip(0, 2, 0), 4);
        Check.due("stool 20", x.strip(0, 2, 20), 4);
        x.heat(7, 7);
        Check.due("heat told anew", x.strip(0, 50, 10), 5);
        x.heat(7, 8);
        x.move(0, 1);
        Check.due("light of its PLACE", x.strip(0, 50, 10), 5);
    }

    /** "strength (of the BATH of a tire or age CLAUSE; 0 elsewhere)". */
    private static void strengthsOfTests() {
        Counted x = Towns.house("tire 0 strength/10;tire 1 7 if strength=1000;tire 2 9 if strength<1000;age 0 strength/9;"
            + "age 1 1 if strength=993;age 2 4 if strength=0;dark strength>0;off strength>0;refuse strength=0;"
            + "refund strength=0;rent strength+6", 10);
        Check.due("neither dark nor off", x.strip(0, 1, 1), 0);
        strengths("tired", x, 0, 900, 993, 1000);
        x.clock(1);
        strengths("aged", x, 0, 800, 992, 1000);
        x.strip(0, 1, 1);
        strengths("tired", x, 0, 720, 992, 1000);
        Check.due("REFUSED", x.refused(0, 0), 2);
        x.claim(0, 0, 0);
        Check.due("refund", x.fair(0, 1), 1);
        Check.due("rent", x.rent(0, 0, 0, 0), 6);
        Counted y = Towns.house("dark strength=0;off strength=0", 10);
        Check.due("dark", y.strip(0, 1, 1), 4);
    }

    /** "head, stool (of a strip; 0 elsewhere)". */
    private static void wordsElsewhere() {
        Counted x = Towns.house("tire 0 head*10+stool;age 1 head+stool+1;age 2 5 if head=0 and stool=0;refund head=0 and stool=0;"
            + "rent head+stool+3;refuse head=9 and stool=7;off head=9 and stool=8", 10);
        Check.due("good", x.strip(0, 9, 7), 0);
        Check.due("off", x.strip(0, 9, 8), 5);
        strengths("of the strip", x, 0, 1000 - 97 - 98, 1000, 1000);
        x.clock(1);
        strengths("of no strip", x, 0, 1000 - 97 - 98, 999, 995);
        x.claim(1, 0, 1);
        Check.due("refund", x.fair(0, 1), 1);
        Check.due("rent", x.rent(0, 0, 0, 1), 3);
        Check.due("REFUSED", x.refused(0, 0), 1);
    }

    /** "strips is the COUNTER, box the BOX, as they are ahead of it". */
    private static void counterAndBoxAhead() {
        Counted x = Towns.house("off strips=0;dark box=20;tire 0 100 if strips=1 and box=10;tire 1 strips;tire 2 box", 10);
        Check.due("the first: 0, 0", x.strip(0, 1, 1), 5);
        strengths("0, 0", x, 0, 1000, 1000, 1000);
        Check.due("the second: 1, 10", x.strip(0, 1, 1), 0);
        strengths("1, 10", x, 0, 900, 999, 990);
        Check.due("the third: 2, 20", x.strip(0, 1, 1), 4);
        strengths("2, 20", x, 0, 900, 997, 970);
        x.empty(0);
        x.change(0, 1);
        x.change(0, 2);
        Check.due("the fourth: 3, 0", x.strip(0, 1, 1), 0);
        strengths("3, 0", x, 0, 900, 997, 1000);
    }

    /** "the first BATH (0, 1, 2) whose STRENGTH is below its weak (0 without), as it is ahead of the STRIP". */
    private static void weakness() {
        for (int bath = 0; bath < 3; bath++) {
            Counted x = Towns.house("weak " + bath + " 999;tire " + bath + " 1", 10);
            Check.due("1000", x.strip(0, 1, 1), 0);
            Check.due("999 isn't below 999", x.strip(0, 1, 1), 0);
            Check.due("998 is", x.strip(0, 1, 1), bath + 1);
            Counted y = Towns.house("weak " + bath + " 0;tire " + bath + " 1000", 10);
            Check.due("1000", y.strip(0, 1, 1), 0);
            Check.due("0 isn't below 0", y.strip(0, 1, 1), 0);
            Counted z = Towns.house("weak " + bath + " 1;tire " + bath + " 1000", 10);
            Check.due("1000", z.strip(0, 1, 1), 0);
            Check.due("0 is below 1", z.strip(0, 1, 1), bath + 1);
            Counted w = Towns.house("tire 0 1000;tire 1 1000;tire 2 1000", 10);
            w.strip(0, 1, 1);
            Check.due("0 without a weak", w.strip(0, 1, 1), 0);
        }
    }

    /** "the first BATH; else 4 if dark HOLDS; else 5 if off HOLDS; else 0". */
    private static void orderOfSpoilers() {
        Counted x = Towns.house("off stool=2;dark head=2;weak 2 600;weak 1 600;weak 0 600;age 0 500;age 1 500;age 2 500", 10);
        Check.due("good", x.strip(0, 1, 1), 0);
        Check.due("off", x.strip(0, 1, 2), 5);
        Check.due("dark", x.strip(0, 2, 1), 4);
        Check.due("dark ahead of off", x.strip(0, 2, 2), 4);
        x.clock(1);
        Check.due("BATH 0 ahead of all", x.strip(0, 2, 2), 1);
        x.change(0, 0);
        Check.due("BATH 1 ahead of 2", x.strip(0, 2, 2), 2);
        x.change(0, 1);
        Check.due("BATH 2 ahead of dark", x.strip(0, 2, 2), 3);
        x.change(0, 2);
        Check.due("dark", x.strip(0, 2, 2), 4);
        int[] due = {1, 1, 1, 1, 3, 1};
        for (int by = 0; by < 6; by++) {
            Check.due("SPOILT by " + by, x.spoilt(0, by), due[by]);
        }
    }

    /** "less by its tire (held to 0 to 1000; 0 without), 0 at least". */
    private static void tireHeld() {
        String[] tires = {"0-1", "0", "1", "999", "1000", "1001", "99999", "0-99999"};
        int[] due = {1000, 1000, 999, 1, 0, 0, 0, 1000};
        for (int i = 0; i < tires.length; i++) {
            for (int bath = 0; bath < 3; bath++) {
                Counted x = Towns.house("tire " + bath + " " + tires[i], 10);
                x.strip(0, 1, 1);
                for (int other = 0; other < 3; other++) {
                    Check.due("tired by " + tires[i], x.of(0, other), other == bath ? due[i] : 1000);
                }
            }
        }
        Counted x = Towns.house("tire 0 600;tire 1 500;tire 2 499", 10);
        x.strip(0, 1, 1);
        x.strip(0, 1, 1);
        strengths("0 at least", x, 0, 0, 0, 2);
        x.strip(0, 1, 1);
        strengths("0 at least", x, 0, 0, 0, 0);
        Counted y = Towns.house("tire 0 400;tire 0 0-1000", 10);
        y.strip(0, 1, 1);
        Check.due("the first one alone", y.of(0, 0), 600);
    }

    /** "each by its own STRENGTH ahead". */
    private static void tireByItsOwn() {
        Counted x = Towns.house("tire 0 strength/2;tire 1 strength/4;tire 2 strength-900", 10);
        x.strip(0, 1, 1);
        strengths("by its own", x, 0, 500, 750, 900);
        x.strip(0, 1, 1);
        strengths("by its own", x, 0, 250, 563, 900);
        x.change(0, 0);
        x.strip(0, 1, 1);
        strengths("by its own", x, 0, 500, 423, 900);
    }

    /** "a paper less, the BOX has the price more, the COUNTER 1 more", SPOILT or good. */
    private static void whatAStripTakes() {
        Counted x = Towns.house("dark head=9;tire 0 5", 999);
        for (int i = 1; i <= 6; i++) {
            Check.due("strip", x.strip(0, 8 + i % 2, 1), i % 2 == 1 ? 4 : 0);
            Check.due("paper", x.of(0, 3), 20 - i);
            Check.due("BOX", x.of(0, 4), 999 * i);
            Check.due("COUNTER", x.of(0, 5), i);
            Check.due("STRENGTH", x.of(0, 0), 1000 - 5 * i);
            Check.due("STRIPS", x.count(4), i);
        }
        Counted y = Towns.house("rent 1", 1);
        y.strip(0, 1, 1);
        Check.due("BOX of price 1", y.of(0, 4), 1);
    }

    /** "of each BATH of each BOOTH the STRENGTH is less by its age (held likewise), 0 at least". */
    private static void ageHeld() {
        String[] ages = {"0-1", "0", "1", "999", "1000", "1001", "99999", "0-99999"};
        int[] due = {1000, 1000, 999, 1, 0, 0, 0, 1000};
        for (int i = 0; i < ages.length; i++) {
            for (int bath = 0; bath < 3; bath++) {
                Counted x = Towns.house("age " + bath + " " + ages[i], 10);
                x.clock(1);
                for (int other = 0; other < 3; other++) {
                    Check.due("aged by " + ages[i], x.of(0, other), other == bath ? due[i] : 1000);
                }
            }
        }
        Counted x = Towns.house("age 0 600;age 1 500;age 2 499", 10);
        x.clock(2);
        strengths("0 at least", x, 0, 0, 0, 2);
        Counted y = Towns.house("age 0 strength/2;age 1 strength/4;age 2 strength-900", 10);
        y.clock(1);
        strengths("each by its own", y, 0, 500, 750, 900);
        y.clock(2);
        strengths("each by its own", y, 0, 250, 563, 900);
        Counted z = Towns.house("age 0 strips;age 1 box;tire 0 0", 10);
        z.clock(1);
        strengths("strips 0, box 0", z, 0, 1000, 1000, 1000);
        z.strip(0, 1, 1);
        z.strip(0, 1, 1);
        z.clock(2);
        strengths("strips 2, box 20", z, 0, 998, 980, 1000);
        z.empty(0);
        z.clock(3);
        strengths("strips 2, box 0", z, 0, 996, 980, 1000);
    }

    /** "heat, day of the DAY that ends; then NOW is the next one". */
    private static void dayThatEnds() {
        Counted x = Towns.house("age 0 day*10;age 1 heat;age 2 1 if day=398", 10);
        x.heat(0, 3);
        x.heat(1, 40);
        x.heat(2, 0);
        x.clock(1);
        strengths("DAY 0", x, 0, 1000, 997, 1000);
        Check.due("NOW", x.count(0), 1);
        x.clock(2);
        strengths("DAY 1", x, 0, 990, 957, 1000);
        x.clock(3);
        strengths("DAY 2", x, 0, 970, 957, 1000);
        x.heat(2, 40);
        strengths("what is aged stays", x, 0, 970, 957, 1000);
        x.clock(398);
        Check.due("DAY 398 hasn't ended", x.of(0, 2), 1000);
        x.clock(399);
        Check.due("DAY 398 ended", x.of(0, 2), 999);
        Counted y = Towns.house("age 0 1 if day=0", 10);
        y.clock(399);
        Check.due("DAY 0 once", y.of(0, 0), 999);
        Counted z = Towns.house("age 0 1", 10);
        z.clock(399);
        Check.due("399 DAYS", z.of(0, 0), 601);
    }

    /** Each BOOTH by its own LAW, from its own DAY on, at its own PLACE. */
    private static void eachBooth() {
        Counted x = Towns.house("age 0 light", 10);
        Check.law(x, "age 0 place+1;tire 0 7");
        x.clock(1);
        Check.due("a BOOTH comes", x.booth(1, 5, 1), 1);
        x.paper(1, 3);
        Check.due("BOOTH 0", x.of(0, 0), 950);
        Check.due("BOOTH 1 is new", x.of(1, 0), 1000);
        x.clock(2);
        Check.due("BOOTH 0", x.of(0, 0), 900);
        Check.due("BOOTH 1", x.of(1, 0), 998);
        x.strip(1, 1, 1);
        Check.due("BOOTH 0 isn't tired", x.of(0, 0), 900);
        Check.due("BOOTH 1 is", x.of(1, 0), 991);
        Check.due("COUNTER of 0", x.of(0, 5), 0);
        Check.due("BOX of 0", x.of(0, 4), 0);
    }

    /** clock: "on to a DAY that is not behind: true; false, and nothing happens, for others". */
    private static void clockEdges() {
        Counted x = Towns.house("age 0 1", 10);
        Check.due("to DAY 0 itself", x.clock(0), true);
        Check.due("no DAY went by", x.of(0, 0), 1000);
        Check.due("to DAY 5", x.clock(5), true);
        Check.due("to DAY 5 itself", x.clock(5), true);
        Check.due("five DAYS went by", x.of(0, 0), 995);
        Check.due("to DAY 4", x.clock(4), false);
        Check.due("NOW", x.count(0), 5);
        Check.due("to DAY 400", x.clock(400), false);
        Check.due("five DAYS went by", x.of(0, 0), 995);
        Check.due("to DAY 399", x.clock(399), true);
        Check.due("to DAY 399 itself", x.clock(399), true);
        Check.due("to DAY 398", x.clock(398), false);
        Check.due("NOW", x.count(0), 399);
        Check.due("399 DAYS went by", x.of(0, 0), 601);
    }

    /** "its STRENGTH is 1000; of BATH 2 the SILVER won grows by (1000 less what its STRENGTH was)". */
    private static void changed() {
        Counted x = Towns.house("tire 0 1;tire 1 1000;tire 2 400", 10);
        Check.due("a fresh BATH 2", x.change(0, 2), 1000);
        Check.due("no SILVER", x.of(0, 7), 0);
        x.strip(0, 1, 1);
        Check.due("BATH 0 was", x.change(0, 0), 999);
        Check.due("BATH 1 was", x.change(0, 1), 0);
        Check.due("no SILVER of these", x.of(0, 7), 0);
        Check.due("BATH 2 stays", x.of(0, 2), 600);
        Check.due("BATH 2 was", x.change(0, 2), 600);
        Check.due("SILVER", x.of(0, 7), 400);
        strengths("changed", x, 0, 1000, 1000, 1000);
        for (int i = 0; i < 3; i++) {
            x.strip(0, 1, 1);
        }
        Check.due("BATH 2 was", x.change(0, 2), 0);
        Check.due("SILVER", x.of(0, 7), 1400);
        Check.due("the others stay", x.of(0, 0), 997);
        x.booth(1, 5, 0);
        Check.due("a fresh one", x.change(1, 2), 1000);
        Check.due("SILVER of another BOOTH", x.of(1, 7), 0);
        Check.due("CHANGES", x.count(5), 6);
    }

    /** empty: "how many coins". */
    private static void emptied() {
        Counted x = Towns.house("rent 1", 999);
        x.booth(1, 5, 0);
        x.paper(1, 5);
        Check.due("an empty BOX", x.empty(0), 0);
        x.strip(0, 1, 1);
        x.strip(1, 1, 1);
        Check.due("one price", x.empty(0), 999);
        Check.due("BOX", x.of(0, 4), 0);
        Check.due("COUNTER stays", x.of(0, 5), 1);
        Check.due("the other BOX", x.of(1, 4), 5);
        x.strip(0, 1, 1);
        x.strip(0, 1, 1);
        Check.due("two prices", x.empty(0), 1998);
        Check.due("emptied", x.empty(0), 0);
    }
}
