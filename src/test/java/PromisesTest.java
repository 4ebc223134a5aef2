/** Promises 1 to 36, each by ordinary calls, by its edges and by wrong ones. */
public final class PromisesTest {
    private static final int UNTOLD = -1000000000;

    public static void main(String[] args) {
        newObject();
        placesMilesHeats();
        booths();
        moves();
        papers();
        strips();
        stripWords();
        spoilers();
        tiring();
        days();
        changes();
        emptyings();
        again();
        againByDays();
        withAndFinest();
        readings();
        agree();
        claims();
        refunds();
        suspects();
        refusals();
        rents();
        rounds();
        worthy();
        placed();
        images();
        Check.end();
    }

    /** Two places, a law by the text, a booth at place 0 of price 10 with paper for 50. */
    private static Counted town(String text) {
        Counted x = new Counted();
        x.place(50);
        x.place(60);
        Check.due("law " + text, Check.law(x, text), 0);
        Check.due("booth", x.booth(0, 10, 0), 0);
        Check.due("paper", x.paper(0, 50), 50);
        return x;
    }

    private static void newObject() {
        Counted x = new Counted();
        for (int what = 0; what <= 8; what++) {
            Check.due("count of a new object " + what, x.count(what), 0);
        }
        Check.due("count 9", x.count(9), -1);
        Check.due("count -1", x.count(-1), -1);
        Check.due("NONE", FourPoses.NONE, -1);
        Check.due("spoilt of all", x.spoilt(-1, 0), 0);
        Check.due("suspect nobody", x.suspect(0), -2);
        Check.due("suspect none", x.suspect(1), 0);
        Check.due("twice none", x.suspect(2), 0);
        Check.due("no round without places", x.round(0, 0, -1), -2);
        Check.due("no worthy without places", x.worthy(0, 0, 0), -1);
        Check.due("placed of none", x.placed(false, 0, -1), 0);
        Check.due("placed of no booth", x.placed(false, 0, 0), UNTOLD);
    }

    private static void placesMilesHeats() {
        Counted x = new Counted();
        Check.due("light below", x.place(-1), -1);
        Check.due("light above", x.place(100), -1);
        for (int i = 0; i < 12; i++) {
            Check.due("place", x.place(i * 9), i);
        }
        Check.due("a thirteenth place", x.place(5), -1);
        Check.due("places", x.count(1), 12);
        Check.due("miles", x.miles(0, 11, 999), 0);
        Check.due("miles the other way", x.miles(11, 0, 5), 999);
        Check.due("miles again", x.miles(0, 11, 0), 5);
        Check.due("miles to itself", x.miles(3, 3, 5), -1);
        Check.due("miles above", x.miles(0, 11, 1000), -1);
        Check.due("miles below", x.miles(0, 11, -1), -1);
        Check.due("miles no place", x.miles(0, 12, 1), -1);
        Check.due("miles no place", x.miles(-1, 0, 1), -1);
        Check.due("miles kept", x.miles(0, 11, 1), 0);
        Check.due("heat", x.heat(0, 40), 15);
        Check.due("heat again", x.heat(0, 0), 40);
        Check.due("heat last", x.heat(399, 1), 15);
        Check.due("heat day above", x.heat(400, 1), -1);
        Check.due("heat day below", x.heat(-1, 1), -1);
        Check.due("heat above", x.heat(0, 41), -1);
        Check.due("heat below", x.heat(0, -1), -1);
        Check.due("heat kept", x.heat(0, 3), 0);
    }

    private static void booths() {
        Counted x = new Counted();
        for (int i = 0; i < 12; i++) {
            x.place(1);
        }
        Check.due("booth without a law", x.booth(0, 1, 0), -1);
        Check.law(x, "dark 1=2");
        Check.due("booth no place", x.booth(12, 1, 0), -1);
        Check.due("booth no place", x.booth(-1, 1, 0), -1);
        Check.due("booth price below", x.booth(0, 0, 0), -1);
        Check.due("booth price above", x.booth(0, 1000, 0), -1);
        Check.due("booth no law", x.booth(0, 1, 1), -1);
        Check.due("booth no law", x.booth(0, 1, -1), -1);
        for (int i = 0; i < 8; i++) {
            Check.due("booth", x.booth(11 - i, 999, 0), i);
            Check.due("booth at one", x.booth(11 - i, 1, 0), -1);
        }
        Check.due("a ninth booth", x.booth(0, 1, 0), -1);
        Check.due("booths", x.count(3), 8);
        int[] due = {1000, 1000, 1000, 0, 0, 0, 8, 0};
        for (int what = 0; what < 8; what++) {
            Check.due("of a new booth " + what, x.of(3, what), due[what]);
        }
        Check.due("of 8", x.of(3, 8), -1);
        Check.due("of -1", x.of(3, -1), -1);
        Check.due("of no booth", x.of(8, 0), -1);
        Check.due("of no booth", x.of(-1, 0), -1);
    }

    private static void moves() {
        Counted x = town("dark light<55");
        x.booth(1, 5, 0);
        Check.due("move to a booth", x.move(0, 1), -1);
        Check.due("move to its own place", x.move(0, 0), -1);
        x.place(99);
        Check.due("move no place", x.move(0, 3), -1);
        Check.due("move no place", x.move(0, -1), -1);
        Check.due("move no booth", x.move(2, 2), -1);
        Check.due("dark at 0", x.strip(0, 1, 1), 4);
        Check.due("move", x.move(0, 2), 0);
        Check.due("place", x.of(0, 6), 2);
        Check.due("light at 2", x.strip(0, 1, 1), 0);
        Check.due("move into what is left", x.move(1, 0), 1);
        Check.due("booth into what is left", x.booth(1, 1, 0), 2);
    }

    private static void papers() {
        Counted x = town("dark 1=2");
        Check.due("paper 0", x.paper(0, 0), -1);
        Check.due("paper 10000", x.paper(0, 10000), -1);
        Check.due("paper beyond", x.paper(0, 9950), -1);
        Check.due("paper kept", x.of(0, 3), 50);
        Check.due("paper full", x.paper(0, 9949), 9999);
        Check.due("paper one more", x.paper(0, 1), -1);
        Check.due("paper no booth", x.paper(1, 1), -1);
        Check.due("paper wraps not", x.paper(0, Integer.MAX_VALUE), -1);
    }

    private static void strips() {
        Counted x = town("dark 1=2");
        Check.due("head 0", x.strip(0, 0, 0), -1);
        Check.due("head 100", x.strip(0, 100, 0), -1);
        Check.due("stool -1", x.strip(0, 1, -1), -1);
        Check.due("stool 21", x.strip(0, 1, 21), -1);
        Check.due("no booth", x.strip(1, 1, 1), -1);
        Check.due("no booth", x.strip(-1, 1, 1), -1);
        Check.due("nothing happened", x.of(0, 3), 50);
        Check.due("strip", x.strip(0, 99, 20), 0);
        Check.due("strip", x.strip(0, 1, 0), 0);
        Check.due("paper less", x.of(0, 3), 48);
        Check.due("box more", x.of(0, 4), 20);
        Check.due("counter more", x.of(0, 5), 2);
        Check.due("strength without tire", x.of(0, 0), 1000);
        x.booth(1, 5, 0);
        Check.due("no paper", x.strip(1, 1, 1), -1);
        x.paper(1, 1);
        Check.due("one paper", x.strip(1, 1, 1), 0);
        Check.due("no paper more", x.strip(1, 1, 1), -1);
        Check.due("strips", x.count(4), 3);
        x.paper(0, 1000);
        for (int i = 3; i < 400; i++) {
            Check.due("strip " + i, x.strip(0, 5, 5), 0);
        }
        Check.due("a strip too many", x.strip(0, 5, 5), -1);
        Check.due("400 strips", x.count(4), 400);
        Check.due("its booth's", x.of(0, 5), 399);
        Check.due("spoilt 0 of all", x.spoilt(-1, 0), 400);
        Check.due("spoilt 0 of one", x.spoilt(1, 0), 1);
    }

    /** Each word by the strength that a tire of it leaves. */
    private static void stripWords() {
        String[] words = {"head", "stool", "light", "heat", "day", "strength/10", "strips", "box", "place",
            "7/2", "(", "5-9", "99999*99999", "2+3*4", "20/3*2", "9-3-2", "5/0", "0-7/2+10",
            "99999*99999*99999*99999*99999/head"};
        long big = 99999L * 99999L * 99999L * 99999L * 99999L;
        long[] less = {33, 7, 50, 21, 4, 100, 1, 10, 0, 3, -1, 0, 1000, 14, 12, 4, 0, 7,
            Math.max(0, Math.min(1000, big / 33))};
        for (int i = 0; i < words.length; i++) {
            if (less[i] < 0) {
                continue;
            }
            Counted x = town("tire 1 " + words[i] + " if strips>0");
            x.heat(4, 21);
            x.clock(4);
            x.strip(0, 33, 7);
            Check.due("no tire by strips 0", x.of(0, 1), 1000);
            x.strip(0, 33, 7);
            Check.due("tire " + words[i], x.of(0, 1), 1000 - less[i]);
            Check.due("no tire of bath 0", x.of(0, 0), 1000);
        }
    }

    private static void spoilers() {
        Counted x = town("weak 0 990;weak 1 980;weak 2 970;tire 0 head;tire 1 stool;tire 2 head+stool;"
            + "dark head=50;off stool=10;off head=51");
        Check.due("good", x.strip(0, 1, 1), 0);
        Check.due("dark", x.strip(0, 50, 10), 4);
        Check.due("weak 0 now", x.strip(0, 50, 10), 1);
        x.change(0, 0);
        x.change(0, 1);
        Check.due("weak 2", x.strip(0, 1, 20), 3);
        Check.due("weak 2, 980 isn't below 980", x.strip(0, 1, 1), 3);
        Check.due("weak 1 ahead of 2", x.strip(0, 1, 1), 2);
        x.change(0, 0);
        x.change(0, 1);
        x.change(0, 2);
        Check.due("off", x.strip(0, 1, 10), 5);
        Check.due("strength as weak", x.of(0, 1), 990);
        Check.due("off by another clause", x.strip(0, 51, 10), 5);
        x.change(0, 0);
        x.change(0, 2);
        Check.due("980 isn't below 980", x.strip(0, 1, 1), 0);
        Check.due("979 is", x.strip(0, 1, 1), 2);
        int[] due = {2, 1, 2, 2, 1, 2};
        for (int by = 0; by < 6; by++) {
            Check.due("spoilt by " + by, x.spoilt(0, by), due[by]);
            Check.due("all spoilt by " + by, x.spoilt(-1, by), due[by]);
        }
        Check.due("spoilt by 6", x.spoilt(0, 6), -1);
        Check.due("spoilt by -1", x.spoilt(0, -1), -1);
        Check.due("spoilt of no booth", x.spoilt(1, 0), -1);
        Check.due("spoilt of no booth", x.spoilt(-2, 0), -1);
    }

    private static void tiring() {
        Counted x = town("tire 0 600 if head>10 and [stool=1 or stool=2];tire 0 7 if not strength=1000;tire 0 3;"
            + "tire 1 0-5;tire 2 5000;dark strength=1000;weak 2 1");
        Check.due("strength is 0 for dark", x.strip(0, 5, 1), 0);
        Check.due("the last clause", x.of(0, 0), 997);
        Check.due("not below 0", x.of(0, 1), 1000);
        Check.due("not above 1000", x.of(0, 2), 0);
        Check.due("bath 2 weak", x.strip(0, 11, 2), 3);
        Check.due("the first clause", x.of(0, 0), 397);
        x.strip(0, 11, 3);
        Check.due("the second clause", x.of(0, 0), 390);
        x.strip(0, 11, 1);
        Check.due("0 at least", x.of(0, 0), 0);
    }

    private static void days() {
        Counted x = town("age 0 heat+day if strength>900;age 1 strips*10+box+head+stool;age 2 light+place;tire 1 0");
        x.heat(0, 1);
        x.heat(1, 2);
        x.heat(2, 40);
        x.strip(0, 9, 9);
        Check.due("no day goes by", x.clock(0), true);
        Check.due("strength", x.of(0, 0), 1000);
        Check.due("two days", x.clock(2), true);
        Check.due("day 0: 1+0, day 1: 2+1", x.of(0, 0), 996);
        Check.due("strips 1, box 10, twice", x.of(0, 1), 960);
        Check.due("light 50 at place 0, twice", x.of(0, 2), 900);
        Check.due("back", x.clock(1), false);
        Check.due("beyond", x.clock(400), false);
        Check.due("now", x.count(0), 2);
        x.move(0, 1);
        x.empty(0);
        x.clock(3);
        Check.due("day 2: 40+2", x.of(0, 0), 954);
        Check.due("strips 1, box 0", x.of(0, 1), 950);
        Check.due("light 60 at place 1", x.of(0, 2), 839);
        Check.due("to the end", x.clock(399), true);
        Check.due("0 at least", x.of(0, 2), 0);
        Check.due("at the end", x.clock(399), true);
        Check.due("over the end", x.clock(400), false);
    }

    private static void changes() {
        Counted x = town("tire 0 100;tire 2 300");
        x.strip(0, 1, 1);
        Check.due("change 2", x.change(0, 2), 700);
        Check.due("silver", x.of(0, 7), 300);
        Check.due("change 0", x.change(0, 0), 900);
        Check.due("no silver", x.of(0, 7), 300);
        Check.due("a fresh one", x.change(0, 2), 1000);
        Check.due("strength", x.of(0, 2), 1000);
        x.strip(0, 1, 1);
        x.change(0, 2);
        Check.due("silver twice", x.of(0, 7), 600);
        Check.due("bath 3", x.change(0, 3), -1);
        Check.due("bath -1", x.change(0, -1), -1);
        Check.due("no booth", x.change(1, 0), -1);
        Check.due("changes", x.count(5), 4);
        for (int i = 4; i < 100; i++) {
            x.change(0, 1);
        }
        Check.due("a change too many", x.change(0, 0), -1);
        Check.due("nothing happened", x.of(0, 0), 900);
        Check.due("changes", x.count(5), 100);
    }

    private static void emptyings() {
        Counted x = town("off box<10");
        Check.due("off", x.strip(0, 1, 1), 5);
        Check.due("good", x.strip(0, 1, 1), 0);
        Check.due("empty", x.empty(0), 20);
        Check.due("empty again", x.empty(0), 0);
        Check.due("off again", x.strip(0, 1, 1), 5);
        Check.due("counter stays", x.of(0, 5), 3);
        Check.due("no booth", x.empty(1), -1);
        Check.due("no booth", x.empty(-1), -1);
    }

    private static void again() {
        Counted x = town("dark 1=2");
        Check.law(x, "tire 0 100;weak 0 850;age 0 box*4;off strips=3 or box=30;dark heat>20 and light=60");
        Check.law(x, "weak 1 999;tire 1 1;age 1 1");
        x.strip(0, 1, 1);
        x.strip(0, 1, 1);
        x.strip(0, 1, 1);
        x.strip(0, 1, 1);
        x.empty(0);
        x.change(0, 0);
        x.clock(2);
        x.strip(0, 1, 1);
        // strengths ahead by law 1: 1000, 900, 800, 700, (1000 behind the change) 1000
        Check.due("weak", x.again(0, 1, 1), 2);
        Check.due("off", x.again(0, 1, 5), 0);
        Check.due("good", x.again(0, 1, 0), 3);
        Check.due("dark", x.again(0, 1, 4), 0);
        // by law 2: 1000, 999, 998, 997, 994
        Check.due("weak 1", x.again(0, 2, 2), 3);
        Check.due("good by law 2", x.again(0, 2, 0), 2);
        Check.due("its own law", x.again(0, 0, 0), 5);
        x.heat(2, 21);
        Check.due("not dark here", x.again(0, 1, 4), 0);
        x.move(0, 1);
        Check.due("dark as told now", x.again(0, 1, 4), 1);
        Check.due("by 6", x.again(0, 1, 6), -1);
        Check.due("by -1", x.again(0, 1, -1), -1);
        Check.due("no law", x.again(0, 3, 0), -1);
        Check.due("no booth", x.again(1, 0, 0), -1);
        Check.due("not all booths", x.again(-1, 0, 0), -1);
        Check.due("what was stays", x.spoilt(0, 0), 5);
    }

    /** Strips and box as they were when each day ended. */
    private static void againByDays() {
        Counted x = town("dark 1=2");
        Check.law(x, "age 0 box*100;weak 0 950");
        Check.law(x, "age 1 strips*10;weak 1 990");
        Check.law(x, "age 2 day+1;weak 2 998");
        x.clock(1);
        x.strip(0, 1, 1);
        x.empty(0);
        Check.due("no box, no strips, day 0: 1", x.again(0, 1, 0) + x.again(0, 2, 0) + x.again(0, 3, 0), 3);
        x.clock(2);
        x.strip(0, 1, 1);
        Check.due("box 0", x.again(0, 1, 1), 0);
        Check.due("strips 1: 990", x.again(0, 2, 2), 0);
        Check.due("day 1: 997", x.again(0, 3, 3), 1);
        x.clock(3);
        x.strip(0, 1, 1);
        Check.due("box 10: 0", x.again(0, 1, 1), 1);
        Check.due("strips 2: 970", x.again(0, 2, 2), 1);
        x.change(0, 1);
        x.clock(4);
        x.strip(0, 1, 1);
        Check.due("box 20", x.again(0, 1, 1), 2);
        Check.due("strips 3, behind a change: 970", x.again(0, 2, 2), 2);
        x.change(0, 1);
        x.strip(0, 1, 1);
        Check.due("behind a change", x.again(0, 2, 2), 2);
        Check.due("a change of another bath", x.again(0, 1, 1), 3);
    }

    private static void withAndFinest() {
        Counted x = new Counted();
        x.place(1);
        Check.law(x, "tire 0 100;weak 0 800;age 0 50");
        x.clock(10);
        x.booth(0, 1, 0);
        x.paper(0, 99);
        Check.due("finest without strips", x.finest(0, 0), 10);
        x.strip(0, 1, 1);
        x.strip(0, 1, 1);
        x.strip(0, 1, 1);
        x.clock(12);
        Check.due("weak", x.strip(0, 1, 1), 1);
        x.clock(13);
        Check.due("weak", x.strip(0, 1, 1), 1);
        x.clock(20);
        // strengths ahead of the strips: 1000, 900, 800 on day 10, 600 on day 12, 450 on day 13
        Check.due("at its coming", x.with(0, 0, 10), 2);
        Check.due("on day 11: 1000 less 50, 800", x.with(0, 0, 11), 0);
        Check.due("on day 12: 1000, 850", x.with(0, 0, 12), 0);
        Check.due("on day 13", x.with(0, 0, 13), 1);
        Check.due("on day 14", x.with(0, 0, 14), 2);
        Check.due("today", x.with(0, 0, 20), 2);
        Check.due("another bath", x.with(0, 1, 12), 2);
        Check.due("ahead of its coming", x.with(0, 0, 9), -1);
        Check.due("behind now", x.with(0, 0, 21), -1);
        Check.due("no bath", x.with(0, 3, 12), -1);
        Check.due("no bath", x.with(0, -1, 12), -1);
        Check.due("no booth", x.with(1, 0, 12), -1);
        Check.due("finest: the first of 11 and 12", x.finest(0, 0), 11);
        Check.due("finest of another bath", x.finest(0, 1), 10);
        Check.due("finest no bath", x.finest(0, 3), -1);
        Check.due("finest no booth", x.finest(1, 0), -1);
        Check.due("nothing is changed", x.of(0, 0), 0);
        Check.due("no change came", x.count(5), 0);
    }

    private static void readings() {
        Counted x = town("dark 1=2");
        x.clock(5);
        Check.due("reading", x.reading(0, 0, 0, 0), 1);
        Check.due("reading", x.reading(0, 5, 99999, 99999999), 2);
        Check.due("behind now", x.reading(0, 6, 0, 0), -1);
        Check.due("below 0", x.reading(0, -1, 0, 0), -1);
        Check.due("counter above", x.reading(0, 5, 100000, 0), -1);
        Check.due("counter below", x.reading(0, 5, -1, 0), -1);
        Check.due("coins above", x.reading(0, 5, 0, 100000000), -1);
        Check.due("coins below", x.reading(0, 5, 0, -1), -1);
        Check.due("no booth", x.reading(1, 5, 0, 0), -1);
        for (int i = 3; i <= 100; i++) {
            Check.due("reading", x.reading(0, 1, 1, 1), i);
        }
        Check.due("a reading too many", x.reading(0, 1, 1, 1), -1);
        Check.due("readings", x.count(6), 100);
    }

    private static void agree() {
        Counted x = town("dark 1=2");
        x.booth(1, 3, 0);
        Check.due("none", x.agree(0, 0, 0), UNTOLD);
        x.strip(0, 1, 1);
        x.clock(2);
        x.strip(0, 1, 1);
        x.strip(0, 1, 1);
        x.reading(0, 0, 2, 10);
        Check.due("one", x.agree(0, 2, 0), UNTOLD);
        x.clock(3);
        x.strip(0, 1, 1);
        x.reading(0, 2, 7, 45);
        Check.due("known on 2", x.agree(0, 2, 0), UNTOLD);
        Check.due("known on 3: 7-2-2", x.agree(0, 3, 0), 3);
        Check.due("coins 45-10-20", x.agree(0, 3, 1), 15);
        Check.due("known behind now", x.agree(0, 399, 1), 15);
        x.clock(4);
        x.reading(0, 2, 4, 30);
        Check.due("told last", x.agree(0, 4, 0), 0);
        Check.due("as known ahead", x.agree(0, 3, 0), 3);
        x.reading(0, 3, 4, 0);
        x.reading(0, 1, 0, 0);
        x.reading(1, 4, 9, 9);
        Check.due("3 beside 2: 4-4-1", x.agree(0, 4, 0), -1);
        Check.due("coins 0-30-10", x.agree(0, 4, 1), -40);
        Check.due("another booth", x.agree(1, 4, 0), UNTOLD);
        Check.due("what 2", x.agree(0, 4, 2), 2 * UNTOLD);
        Check.due("what -1", x.agree(0, 4, -1), 2 * UNTOLD);
        Check.due("no day", x.agree(0, 400, 0), 2 * UNTOLD);
        Check.due("no day", x.agree(0, -1, 0), 2 * UNTOLD);
        Check.due("no booth", x.agree(2, 4, 0), 2 * UNTOLD);
        Check.due("no booth", x.agree(-1, 4, 0), 2 * UNTOLD);
    }

    private static void claims() {
        Counted x = town("dark head=9");
        x.booth(1, 5, 0);
        x.paper(1, 9);
        x.strip(0, 9, 1);
        x.strip(0, 8, 1);
        x.strip(1, 9, 1);
        x.clock(1);
        x.strip(0, 9, 1);
        Check.due("claim", x.claim(0, 0, 0), 0);
        Check.due("claim", x.claim(31, 0, 0), 1);
        Check.due("claim", x.claim(3, 1, 0), 2);
        Check.due("claim", x.claim(3, 0, 1), 3);
        Check.due("claim", x.claim(3, 0, 1), 4);
        Check.due("who above", x.claim(32, 0, 0), -1);
        Check.due("who below", x.claim(-1, 0, 0), -1);
        Check.due("behind now", x.claim(0, 0, 2), -1);
        Check.due("below 0", x.claim(0, 0, -1), -1);
        Check.due("no booth", x.claim(0, 2, 0), -1);
        int[] due = {1, 0, 1, 1, 0};
        for (int c = 0; c < 5; c++) {
            Check.due("fair " + c, x.fair(c, 0), due[c]);
            Check.due("paid " + c, x.fair(c, 1), due[c]);
        }
        x.strip(0, 9, 1);
        Check.due("fair as it is asked", x.fair(4, 0), 1);
        Check.due("what 2", x.fair(0, 2), -1);
        Check.due("what -1", x.fair(0, -1), -1);
        Check.due("no claim", x.fair(5, 0), -1);
        Check.due("no claim", x.fair(-1, 0), -1);
        for (int i = 5; i < 100; i++) {
            x.claim(1, 1, 1);
        }
        Check.due("a claim too many", x.claim(1, 1, 1), -1);
        Check.due("claims", x.count(7), 100);
    }

    private static void refunds() {
        String[] tests = {"box=1", "box=2", "strips=2", "strips=1", "day=3", "day=4", "heat=33", "heat=15",
            "light=50", "place=0 and head=0 and stool=0 and strength=0", "place=1"};
        int[] due = {0, 1, 1, 0, 1, 0, 1, 0, 1, 1, 0};
        for (int i = 0; i < tests.length; i++) {
            Counted x = town("refund " + tests[i]);
            x.booth(1, 5, 0);
            x.heat(3, 33);
            x.strip(0, 1, 1);
            x.clock(3);
            x.strip(0, 1, 1);
            x.strip(0, 1, 1);
            x.clock(4);
            x.claim(7, 1, 0);
            x.claim(8, 0, 3);
            x.claim(7, 0, 3);
            x.claim(7, 0, 3);
            Check.due("not fair", x.fair(2, 0), 0);
            Check.due("refund " + tests[i], x.fair(2, 1), due[i]);
        }
    }

    private static void suspects() {
        Counted x = town("dark head=9");
        x.booth(1, 5, 0);
        x.strip(0, 9, 1);
        x.claim(5, 0, 0);
        Check.due("nobody", x.suspect(0), -2);
        Check.due("none", x.suspect(1), 0);
        x.claim(5, 0, 0);
        Check.due("who", x.suspect(0), 5);
        x.claim(4, 0, 0);
        Check.due("the least", x.suspect(0), 4);
        Check.due("one", x.suspect(1), 1);
        Check.due("twice: 2 less 1", x.suspect(2), 1);
        x.claim(5, 1, 0);
        x.claim(6, 1, 0);
        x.claim(6, 1, 0);
        Check.due("who", x.suspect(0), 5);
        Check.due("two", x.suspect(1), 2);
        Check.due("twice: 5 less 2", x.suspect(2), 3);
        x.strip(0, 9, 1);
        Check.due("as it is asked", x.suspect(0), 6);
        Check.due("what 3", x.suspect(3), -1);
        Check.due("what -1", x.suspect(-1), -1);
    }

    private static void refusals() {
        Counted x = town("dark head=99");
        Check.law(x, "refuse head>50 and strips=0 and box=0 and strength=0;refuse stool=20");
        Check.law(x, "refuse head>60 or heat=30 and day=2 or light=60 and place=1");
        x.booth(1, 7, 0);
        x.paper(1, 9);
        x.strip(0, 51, 1);
        x.strip(0, 99, 1);
        x.strip(0, 10, 20);
        x.strip(1, 10, 1);
        x.clock(2);
        x.strip(0, 10, 1);
        x.strip(0, 61, 1);
        Check.due("by law 1", x.refused(1, 0), 3);
        Check.due("by law 1 of 1", x.refused(1, 1), 0);
        Check.due("by law 2", x.refused(2, 0), 1);
        Check.due("by law 2 of all", x.refused(2, -1), 2);
        x.heat(2, 30);
        Check.due("heat as told now", x.refused(2, 0), 2);
        Check.due("by no clause", x.refused(0, -1), 0);
        Check.due("no law", x.refused(3, 0), -1);
        Check.due("no law", x.refused(-1, 0), -1);
        Check.due("no booth", x.refused(1, 2), -1);
        Check.due("no booth", x.refused(1, -2), -1);
        // law 1: 51, 10/20, 61; law 2: strip of booth 1, 10 on day 2, 61
        Check.due("newer: 20 less 17", x.newer(1, 2), 3);
        Check.due("the other way", x.newer(2, 1), -3);
        Check.due("itself", x.newer(2, 2), 0);
        Check.due("beside none", x.newer(1, 0), 30);
        Check.due("no law", x.newer(1, 3), UNTOLD);
        Check.due("no law", x.newer(3, 1), UNTOLD);
        Check.due("no law", x.newer(-1, 1), UNTOLD);
    }

    private static void rents() {
        Counted x = town("dark 1=2");
        Check.law(x, "rent strips*100+box+day+heat if strips>1;rent 7");
        Check.law(x, "rent 0-99999*99999 if day>5;rent 99999*99999 if day=5;rent head+stool+strength+light+place+7");
        Check.law(x, "rent 5 if strips>99");
        x.strip(0, 1, 1);
        x.clock(1);
        x.strip(0, 1, 1);
        x.clock(3);
        x.strip(0, 1, 1);
        x.heat(3, 40);
        Check.due("three strips", x.rent(1, 0, 0, 3), 300 + 30 + 3 + 40);
        Check.due("two strips", x.rent(1, 0, 1, 3), 200 + 20 + 3 + 40);
        Check.due("one strip", x.rent(1, 0, 2, 3), 7);
        Check.due("one day", x.rent(1, 0, 3, 3), 7);
        Check.due("held", x.rent(2, 0, 0, 5), 99999999);
        Check.due("held below", x.rent(2, 0, 0, 6), -99999999);
        Check.due("light 50", x.rent(2, 0, 0, 4), 57);
        Check.due("without", x.rent(3, 0, 0, 399), 0);
        Check.due("without", x.rent(0, 0, 0, 399), 0);
        Check.due("from above to", x.rent(1, 0, 2, 1), UNTOLD);
        Check.due("from below", x.rent(1, 0, -1, 1), UNTOLD);
        Check.due("to above", x.rent(1, 0, 0, 400), UNTOLD);
        Check.due("no law", x.rent(4, 0, 0, 1), UNTOLD);
        Check.due("no booth", x.rent(1, 1, 0, 1), UNTOLD);
        Check.due("cheapest: the first", x.cheapest(0, 0, 5), 0);
        Check.due("cheapest: below 0", x.cheapest(0, 0, 6), 2);
        Check.due("cheapest from above to", x.cheapest(0, 1, 0), -1);
        Check.due("cheapest no day", x.cheapest(0, 0, 400), -1);
        Check.due("cheapest no day", x.cheapest(0, -1, 0), -1);
        Check.due("cheapest no booth", x.cheapest(1, 0, 1), -1);
        Counted y = town("rent 99999*99999");
        Check.due("cheapest of dear ones", y.cheapest(0, 0, 0), 0);
    }

    /** Places 0 to 4 on a line of 10 miles each; booths 0, 1, 2 at 3, 1, 4. */
    private static Counted line() {
        Counted x = new Counted();
        for (int i = 0; i < 5; i++) {
            x.place(1);
        }
        for (int a = 0; a < 5; a++) {
            for (int b = 0; b < a; b++) {
                x.miles(a, b, 10 * (a - b));
            }
        }
        Check.law(x, "dark 1=2");
        x.booth(3, 1, 0);
        x.booth(1, 1, 0);
        x.booth(4, 1, 0);
        return x;
    }

    private static void rounds() {
        Counted x = line();
        Check.due("empty set", x.round(0, 0, -1), 0);
        Check.due("empty set's first", x.round(0, 0, 0), -1);
        Check.due("one", x.round(1, 0, -1), 60);
        Check.due("at the place", x.round(1, 3, -1), 0);
        Check.due("all", x.round(7, 0, -1), 80);
        // 0 (at 3), 2 (at 4), 1 (at 1) is 80 miles too, and the first of them
        Check.due("first", x.round(7, 0, 0), 0);
        Check.due("second", x.round(7, 0, 1), 2);
        Check.due("third", x.round(7, 0, 2), 1);
        Check.due("no fourth", x.round(7, 0, 3), -1);
        Check.due("no eighth", x.round(7, 0, 7), -1);
        x.miles(1, 3, 5);
        Check.due("shorter: 10, 5, 10, 40", x.round(7, 0, -1), 65);
        Check.due("first: 0 is 30, 10, 30, 10", x.round(7, 0, 0), 1);
        Check.due("what 8", x.round(7, 0, 8), -2);
        Check.due("what -2", x.round(7, 0, -2), -2);
        Check.due("no place", x.round(7, 5, -1), -2);
        Check.due("no place", x.round(7, -1, -1), -2);
        Check.due("no booth 3", x.round(8, 0, -1), -2);
        Check.due("set below", x.round(-1, 0, -1), -2);
        Check.due("set above", x.round(256, 0, -1), -2);
    }

    private static void worthy() {
        Counted x = line();
        Check.due("call", x.call(0, 100), 0);
        Check.due("call again", x.call(0, 59), 100);
        Check.due("call above", x.call(0, 10000), -1);
        Check.due("call below", x.call(0, -1), -1);
        Check.due("call no booth", x.call(3, 1), -1);
        Check.due("none is worth it", x.worthy(0, 1, 0), 0);
        Check.due("nothing", x.worthy(0, 1, 1), 0);
        x.call(0, 40);
        x.call(1, 20);
        Check.due("of several the least", x.worthy(0, 1, 0), 0);
        x.call(0, 59);
        Check.due("59 + 20 - 60", x.worthy(0, 1, 1), 19);
        Check.due("both", x.worthy(0, 1, 0), 3);
        x.call(2, 9999);
        Check.due("all", x.worthy(0, 1, 0), 7);
        Check.due("59 + 20 + 9999 - 80", x.worthy(0, 1, 1), 9998);
        Check.due("all for nothing", x.worthy(0, 0, 1), 10078);
        x.call(0, 0);
        x.call(1, 0);
        Check.due("the least that is most", x.worthy(0, 0, 0), 4);
        Check.due("coins above", x.worthy(0, 100, 0), -1);
        Check.due("coins below", x.worthy(0, -1, 0), -1);
        Check.due("what 2", x.worthy(0, 0, 2), -1);
        Check.due("what -1", x.worthy(0, 0, -1), -1);
        Check.due("no place", x.worthy(5, 0, 0), -1);
        Check.due("no place", x.worthy(-1, 0, 0), -1);
    }

    private static void placed() {
        Counted x = line();
        Check.due("nothing told", x.placed(false, 0, -1), 0);
        Check.due("first places", x.placed(false, 0, 0), 0);
        Check.due("first places", x.placed(false, 0, 1), 1);
        Check.due("first places", x.placed(false, 0, 2), 2);
        Check.due("a crane's cost", x.placed(false, 1, 0), 3);
        Check.due("takes nothing", x.takes(0, 0, 0, 0), true);
        Check.due("takes", x.takes(0, 0, 5, 50), true);
        Check.due("takes", x.takes(1, 0, 6, 6), true);
        Check.due("most below least", x.takes(1, 0, 6, 5), false);
        Check.due("least below", x.takes(1, 0, -1, 5), false);
        Check.due("most above", x.takes(1, 0, 0, 10000), false);
        Check.due("no place", x.takes(1, 5, 0, 1), false);
        Check.due("no booth", x.takes(3, 0, 0, 1), false);
        Check.due("all", x.takes(2, 4, 9999, 9999), true);
        Check.due("least: 6 + 9999", x.placed(false, 0, -1), 10005);
        Check.due("booth 1 at 0", x.placed(false, 0, 1), 0);
        Check.due("booth 0 at 1", x.placed(false, 0, 0), 1);
        Check.due("most: 50 + 9999", x.placed(true, 0, -1), 10049);
        Check.due("booth 0 at 0", x.placed(true, 0, 0), 0);
        Check.due("less 20", x.placed(true, 20, -1), 10029);
        Check.due("booth 1 stays", x.placed(true, 20, 1), 1);
        Check.due("too dear", x.placed(true, 51, -1), 9999);
        Check.due("even: the first", x.placed(true, 50, 0), 0);
        Check.due("cost above", x.placed(true, 10000, -1), UNTOLD);
        Check.due("cost below", x.placed(true, -1, -1), UNTOLD);
        Check.due("what 3", x.placed(true, 0, 3), UNTOLD);
        Check.due("what -2", x.placed(true, 0, -2), UNTOLD);
    }

    private static void images() {
        Counted x = new Counted();
        Check.due("back to none", x.back(0), -1);
        Check.due("image of nothing", x.image(0), 0);
        Check.due("image 4", x.image(4), -1);
        Check.due("image -1", x.image(-1), -1);
        Check.due("back 4", x.back(4), -1);
        Check.due("back -1", x.back(-1), -1);
        x.place(10);
        x.place(20);
        x.miles(0, 1, 7);
        x.heat(3, 3);
        Check.law(x, "tire 2 10;dark head=9;age 0 5");
        x.booth(0, 10, 0);
        x.paper(0, 10);
        x.strip(0, 9, 1);
        x.clock(3);
        x.reading(0, 0, 1, 1);
        x.claim(1, 0, 0);
        x.call(0, 44);
        x.takes(0, 1, 5, 6);
        x.change(0, 1);
        Check.due("image", x.image(3), 3);
        Check.law(x, "dark 1=1");
        x.place(30);
        x.miles(0, 1, 70);
        x.heat(3, 30);
        x.booth(1, 5, 1);
        x.paper(1, 5);
        x.strip(1, 1, 1);
        x.change(0, 2);
        x.empty(0);
        x.move(0, 2);
        x.clock(9);
        x.reading(0, 0, 1, 1);
        x.claim(1, 0, 0);
        x.call(0, 1);
        x.takes(0, 1, 7, 8);
        Check.tape(x, "off 1=1");
        Check.due("back", x.back(3), 3);
        int[] counts = {3, 2, 2, 1, 1, 1, 1, 1, 7};
        for (int what = 0; what < counts.length; what++) {
            Check.due("count after back " + what, x.count(what), counts[what]);
        }
        int[] due = {985, 1000, 990, 9, 10, 1, 0, 0};
        for (int what = 0; what < due.length; what++) {
            Check.due("of after back " + what, x.of(0, what), due[what]);
        }
        Check.due("placed after back", x.placed(false, 0, -1), 5);
        Check.due("tape stays", x.law(), 2);
        Check.due("laws stay", x.again(0, 1, 4), 1);
        Check.due("heat after back", x.heat(3, 4), 3);
        Check.due("miles after back", x.miles(0, 1, 8), 7);
        Check.due("call after back", x.call(0, 8), 44);
        Check.due("a new place is new", x.place(5), 2);
        Check.due("its miles are 0", x.miles(2, 0, 1), 0);
        Check.due("a new booth is new", x.booth(1, 5, 2), 1);
        Check.due("its paper is 0", x.of(1, 3), 0);
        x.change(0, 2);
        Check.due("back once more", x.back(3), 3);
        Check.due("heat of the image", x.heat(3, 4), 3);
        Check.due("silver of the image", x.of(0, 7), 0);
        Check.due("back to the beginning", x.back(0), 0);
        Check.due("no places", x.count(1), 0);
        Check.due("no booths", x.of(0, 0), -1);
        Check.due("images stay", x.back(3), 3);
        Check.due("a booth again", x.of(0, 0), 985);
        x.clock(4);
        Check.due("image anew", x.image(0), 4);
        x.clock(8);
        Check.due("back to it", x.back(0), 4);
    }
}
