/** Promises 35 and 36: an IMAGE keeps all but the TAPE and the texts, and is gone back to as it was. */
public final class ImagesTest {
    private static final Look.Call[] TOLD = {
        x -> x.place(9), x -> x.miles(0, 2, 500), x -> x.heat(1, 1), x -> x.heat(399, 40), x -> x.booth(2, 7, 1),
        x -> x.move(0, 3), x -> x.paper(0, 5), x -> x.strip(0, 13, 4), x -> x.strip(1, 60, 9), x -> x.clock(7) ? 1 : 0,
        x -> x.clock(399) ? 1 : 0, x -> x.change(0, 2), x -> x.change(1, 1), x -> x.empty(1), x -> x.reading(0, 6, 9, 9),
        x -> x.claim(0, 0, 5), x -> x.call(0, 9999), x -> x.takes(0, 3, 7777, 8888) ? 1 : 0, x -> x.back(2), x -> x.back(0),
        x -> x.strip(1, 60, 0), x -> x.strip(1, 20, 4), x -> x.strip(0, 13, 4) + x.with(0, 1, 0),
        x -> x.strip(1, 60, 9) + x.finest(1, 1), x -> x.strip(0, 9, 1) + x.again(0, 2, 1)
    };

    public static void main(String[] args) {
        kept();
        textsStay();
        images();
        neverMade();
        whereNothingWasTold();
        empty();
        otherFutures();
        rowsTakenAnew();
        Check.end();
    }

    /** "gone back to, it is as it was", whatever was told behind it, and once more behind that. */
    private static void kept() {
        for (int i = 0; i < TOLD.length; i++) {
            Look.Call told = TOLD[i];
            Twins.Past plain = x -> {
                Towns.some(x);
                x.image(3);
            };
            Twins.alike("back over telling " + i, x -> {
                plain.tell(x);
                told.on(x);
                Check.due("back", x.back(3), 6);
            }, plain, true);
            Twins.alike("back twice over telling " + i, x -> {
                plain.tell(x);
                x.back(3);
                told.on(x);
                told.on(x);
                Check.due("back", x.back(3), 6);
            }, plain, true);
            Twins.alike("told " + i + " as ever behind back", x -> {
                plain.tell(x);
                told.on(x);
                x.back(3);
                told.on(x);
            }, x -> {
                plain.tell(x);
                told.on(x);
            }, true);
        }
    }

    /** "all but the TAPE and the texts (these stay)". */
    private static void textsStay() {
        Counted x = Twins.of(Towns::some);
        x.image(1);
        Check.due("law", x.law(), 3);
        Check.due("law", Check.law(x, "rent 77"), 4);
        Check.tape(x, "rent 8");
        Check.due("back", x.back(1), 6);
        Check.due("LAWS stay", x.count(2), 5);
        Check.due("by LAW 4", x.rent(4, 0, 0, 0), 77);
        Check.due("by LAW 3", x.rent(3, 0, 0, 0), 9);
        Check.due("TAPE stays", x.count(8), 6);
        Check.due("the TAPE is a LAW", x.law(), 5);
        Check.due("by LAW 5", x.rent(5, 0, 0, 0), 8);
        Check.due("back", x.back(2), 0);
        Check.due("LAWS stay", x.count(2), 6);
        Check.due("an empty TAPE stays", x.count(8), 0);
        x.feed(0, 0, 0, 0, 0);
        Check.due("back", x.back(1), 6);
        Check.due("a TAPE of 20 stays", x.count(8), 20);
        for (int i = 6; i < 8; i++) {
            Check.due("law", Check.law(x, "rent 1"), i);
        }
        x.back(1);
        Check.due("a ninth LAW", x.law(), -1);
    }

    /** "IMAGES 0 to 3": each of its own, and made anew. */
    private static void images() {
        Counted x = new Counted();
        for (int k = 0; k < 4; k++) {
            x.clock(10 * k);
            x.place(k);
            Check.due("image " + k, x.image(k), 10 * k);
        }
        x.clock(399);
        for (int k : new int[] {3, 0, 2, 1, 1, 3}) {
            Check.due("back " + k, x.back(k), 10 * k);
            Check.due("NOW of image " + k, x.count(0), 10 * k);
            Check.due("PLACES of image " + k, x.count(1), k + 1);
        }
        x.clock(50);
        Check.due("image 2 anew", x.image(2), 50);
        x.clock(60);
        Check.due("back 1", x.back(1), 10);
        Check.due("back 2", x.back(2), 50);
        Check.due("PLACES of image 2", x.count(1), 4);
        Check.due("back 0", x.back(0), 0);
        Check.due("image 3 of image 0", x.image(3), 0);
        Check.due("back 2", x.back(2), 50);
        Check.due("back 3", x.back(3), 0);
        Check.due("PLACES of image 3", x.count(1), 1);
    }

    /** back: "NONE, and nothing happens, if it was never made, or without it". */
    private static void neverMade() {
        for (int k : new int[] {1, 3, 4, -1, 5, Integer.MIN_VALUE, Integer.MAX_VALUE}) {
            Twins.refused("back " + k, Towns::some, x -> x.back(k), -1);
        }
        for (int k : new int[] {4, -1, 5, Integer.MIN_VALUE, Integer.MAX_VALUE}) {
            Twins.refused("image " + k, Towns::some, x -> x.image(k), -1);
        }
    }

    /** "An IMAGE is made (also where nothing was told yet)". */
    private static void whereNothingWasTold() {
        for (int k = 0; k < 4; k++) {
            int n = k;
            Twins.alike("back to nothing told", x -> {
                Check.due("image " + n, x.image(n), 0);
                x.place(9);
                x.place(9);
                x.miles(0, 1, 5);
                x.heat(3, 3);
                x.clock(8);
                Check.due("back " + n, x.back(n), 0);
            }, x -> x.image(n), true);
        }
    }

    /** What there was none of in the IMAGE is new when it comes again. */
    private static void empty() {
        Counted x = Twins.of(Towns::some);
        x.place(1);
        x.miles(4, 0, 9);
        x.takes(0, 3, 5, 6);
        x.back(2);
        Check.due("BOOTHS", x.count(3), 0);
        Check.due("BOOTH 0", x.booth(3, 7, 2), 0);
        int[] due = {1000, 1000, 1000, 0, 0, 0, 3, 0};
        for (int what = 0; what < 8; what++) {
            Check.due("of a new BOOTH " + what, x.of(0, what), due[what]);
        }
        Check.due("its worth", x.call(0, 0), 0);
        Check.due("what it takes at most", x.placed(true, 0, -1), 0);
        Check.due("no strip of it", x.spoilt(0, 0), 0);
        Check.due("no paper", x.strip(0, 1, 1), -1);
        Check.due("no READING", x.agree(0, 399, 0), -1000000000);
        Check.due("no CLAIM", x.fair(0, 0), -1);
        Check.due("CLAIM 0", x.claim(1, 0, 0), 0);
        Check.due("without a strip", x.fair(0, 0), 0);
        Check.due("PLACE 4", x.place(1), 4);
        Check.due("its MILES", x.miles(0, 4, 1), 0);
    }

    private static void twoLaws(Counted x) {
        Check.law(x, "tire 0 head;weak 0 900;age 0 box+strips;dark stool=3;off light=99;refuse head>30");
        Check.law(x, "tire 1 head+stool;weak 1 700;age 1 heat;refund day=1;rent box-day*3+light*1000;"
            + "off strips=4 and stool>1;off box>10 and box<25");
    }

    /** All that an image keeps, told in ways that differ by n. */
    private static void future(Counted x, int n) {
        for (int i = 0; i < 3 + n; i++) {
            x.place(99 - i * n);
        }
        for (int i = 0; i < 3; i++) {
            x.miles(i, i + 1, 10 * n + i);
            x.heat(i, 7 * n + i);
        }
        for (int b = 0; b < 3; b++) {
            x.booth((b + n) % 4, 5 + b + n, (b + n) % 2);
            x.paper(b, 30 + n);
            x.call(b, 100 * n + b);
            x.takes(b, n, 10 * n, 20 * n + b);
            x.clock(b * (n % 2));
        }
        int now = 2 * (n % 2);
        for (int i = 0; i < 24; i++) {
            x.strip((i / n + n) % 3, 10 + (i * n + i) % 60, (i + n) % 5);
            if (i % 5 == n) {
                x.change(i % 3, (i + n) % 3);
                now += n;
                x.clock(now);
            }
            if (i % 7 == n) {
                x.empty((i + n) % 3);
            }
            if (i % 4 == n) {
                x.reading(i % 3, now - i % n, i * n, i + n);
                x.claim(i * n % 9, (i + n) % 3, now - i % n);
            }
        }
    }

    /** An object that went back answers as one that never went another way. */
    private static void otherFutures() {
        for (int n = 1; n <= 2; n++) {
            int k = n;
            Twins.Past straight = x -> {
                twoLaws(x);
                future(x, k);
            };
            Twins.Past first = x -> {
                twoLaws(x);
                x.image(0);
                future(x, 1);
                x.image(1);
                x.back(0);
                future(x, 2);
                x.image(2);
            };
            Twins.alike("back to image " + k, x -> {
                first.tell(x);
                x.back(k);
            }, straight, false);
            Twins.alike("another future, then back to image " + k, x -> {
                first.tell(x);
                x.back(0);
                x.place(5);
                x.booth(0, 9, 1);
                x.back(k);
            }, straight, false);
            Twins.alike("back to image " + k + " and on", x -> {
                first.tell(x);
                x.back(k);
                x.strip(0, 9, 3);
                x.clock(30);
            }, x -> {
                straight.tell(x);
                x.strip(0, 9, 3);
                x.clock(30);
            }, false);
        }
    }

    /** Two pasts that differ in each thing told, one over the other, and both gone back to. */
    private static void rowsTakenAnew() {
        Counted x = new Counted();
        String[] laws = {"rent 1", "off light=60", "dark strips=1", "dark box=7", "refuse head=5", "refuse stool=6",
            "age 0 1;weak 0 999", "off box=0"};
        for (String law : laws) {
            Check.law(x, law);
        }
        x.image(0);
        onePast(x);
        x.image(1);
        asInOnePast(x);
        x.back(0);
        otherPast(x);
        x.image(2);
        asInOtherPast(x);
        Check.due("back to the one", x.back(1), 3);
        asInOnePast(x);
        Check.due("back to the other", x.back(2), 6);
        asInOtherPast(x);
        x.back(0);
        onePast(x);
        asInOnePast(x);
    }

    private static void onePast(Counted x) {
        x.place(60);
        x.place(61);
        x.clock(1);
        x.booth(0, 7, 0);
        x.paper(0, 9);
        x.strip(0, 5, 6);
        x.reading(0, 0, 1, 10);
        x.clock(3);
        x.strip(0, 5, 1);
        x.reading(0, 1, 5, 50);
        x.claim(2, 0, 1);
    }

    private static void asInOnePast(Counted x) {
        Check.due("NOW", x.count(0), 3);
        Check.due("light of PLACE 0", x.again(0, 1, 5), 2);
        Check.due("COUNTER of a STRIP", x.again(0, 2, 4), 1);
        Check.due("BOX of a STRIP", x.again(0, 3, 4), 1);
        Check.due("BOX of the first", x.again(0, 7, 5), 1);
        Check.due("heads", x.refused(4, -1), 2);
        Check.due("stools", x.refused(5, -1), 1);
        Check.due("DAYS of STRIPS", x.again(0, 6, 1), 1);
        Check.due("ahead of its DAY", x.with(0, 0, 0), -1);
        Check.due("its DAY", x.finest(0, 0), 1);
        Check.due("KNOWN on DAY 2", x.agree(0, 2, 0), -1000000000);
        Check.due("KNOWN on DAY 3", x.agree(0, 3, 0), 3);
        Check.due("their coins", x.agree(0, 3, 1), 33);
        Check.due("who claims", x.suspect(0), 2);
        Check.due("no CLAIM more", x.fair(1, 0), -1);
        Check.due("price", x.rent(0, 0, 0, 3), 1);
        Check.due("no BOOTH more", x.of(1, 0), -1);
        Check.due("no CHANGE", x.count(5), 0);
    }

    private static void otherPast(Counted x) {
        x.place(10);
        x.place(60);
        x.booth(1, 9, 0);
        x.booth(0, 3, 7);
        x.paper(0, 9);
        x.paper(1, 9);
        x.strip(1, 9, 9);
        x.strip(0, 8, 8);
        x.strip(1, 8, 6);
        x.empty(1);
        x.change(0, 2);
        x.clock(6);
        x.reading(1, 5, 6, 60);
        x.reading(1, 6, 70, 7);
        x.reading(0, 6, 70, 7);
        x.claim(9, 1, 0);
        x.claim(9, 1, 0);
        x.claim(9, 1, 6);
    }

    private static void asInOtherPast(Counted x) {
        Check.due("NOW", x.count(0), 6);
        Check.due("light of PLACE 1", x.again(0, 1, 5), 1);
        Check.due("light of PLACE 0", x.again(1, 1, 5), 0);
        Check.due("COUNTER of a STRIP", x.again(1, 2, 4), 1);
        Check.due("BOX of none", x.again(1, 3, 4), 0);
        Check.due("heads", x.refused(4, -1), 0);
        Check.due("stools", x.refused(5, -1), 1);
        Check.due("DAYS of STRIPS", x.again(0, 6, 1), 0);
        Check.due("its DAY", x.with(0, 0, 0), 0);
        Check.due("SPOILT by its own LAW", x.with(1, 0, 0), 1);
        Check.due("KNOWN on DAY 6", x.agree(1, 6, 0), 64);
        Check.due("their coins", x.agree(1, 6, 1), -53);
        Check.due("one of BOOTH 0", x.agree(0, 6, 0), -1000000000);
        Check.due("who claims", x.suspect(0), 9);
        Check.due("the FAIR one", x.fair(0, 0), 1);
        Check.due("not FAIR", x.fair(1, 0), 0);
        Check.due("CHANGES", x.count(5), 1);
    }
}
