/** What there may be of at most: the last one is taken, the one behind it refused, leaving nothing behind. */
public final class LimitsTest {
    public static void main(String[] args) {
        twelvePlaces();
        fourHundredBytes();
        eightLaws();
        eightBooths();
        paperFull();
        fourHundredStrips();
        fourHundredOfOne();
        allThatCame();
        hundredChanges();
        hundredReadings();
        hundredClaims();
        limitsOfImages();
        lastCall();
        Check.end();
    }

    private static void times(int n, Runnable told) {
        for (int i = 0; i < n; i++) {
            told.run();
        }
    }

    /** Two booths of price 3 by this law, paper for 200 in each. */
    private static void two(Counted x, String law) {
        x.place(40);
        x.place(41);
        Check.due("law " + law, Check.law(x, law), 0);
        x.booth(0, 3, 0);
        x.booth(1, 3, 0);
        x.paper(0, 210);
        x.paper(1, 210);
    }

    /** place: "NONE: there are 12". */
    private static void twelvePlaces() {
        Counted x = new Counted();
        for (int i = 0; i < 12; i++) {
            Check.due("PLACE " + i, x.place(7), i);
        }
        Twins.refused("a thirteenth PLACE", y -> times(12, () -> y.place(7)), y -> y.place(7), -1);
    }

    /** feed: "NONE, and none comes, if it would have more than 400". */
    private static void fourHundredBytes() {
        for (int bytes : new int[] {0, 1, 380}) {
            Counted x = Twins.of(y -> bytesOf(y, bytes));
            Check.due("feed behind " + bytes, x.feed(1, 2, 3, 4, 5), bytes + 20);
        }
        for (int bytes : new int[] {381, 399, 400}) {
            Twins.refused("feed behind " + bytes, y -> bytesOf(y, bytes), y -> y.feed(-1, -1, -1, -1, -1), -1);
        }
    }

    /** A tape of so many bytes, of which the last is the first that can't stand there. */
    private static void bytesOf(Counted x, int bytes) {
        String text = "rent" + " ".repeat(400);
        Check.tape(x, text.substring(0, Math.max(0, bytes - 1)) + (bytes > 0 ? "]" : ""));
        Check.due("bytes", x.count(8), bytes);
    }

    /** law: "NONE, and nothing happens: there are 8"; faulty texts are none. */
    private static void eightLaws() {
        Counted x = new Counted();
        for (int i = 0; i < 8; i++) {
            Check.due("a faulty text ahead of LAW " + i, Check.law(x, "rent 1;"), -3 - 56);
            Check.due("LAWS", x.count(2), i);
            Check.due("LAW " + i, Check.law(x, "rent " + i), i);
            Check.due("the TAPE is empty", x.count(8), 0);
        }
        for (String text : new String[] {"", "dark 1=1", "dark"}) {
            Twins.refused("a ninth LAW: " + text, y -> {
                for (int i = 0; i < 8; i++) {
                    Check.law(y, "rent 9");
                }
                Check.tape(y, text);
            }, Counted::law, -1);
        }
        Check.tape(x, "weak 0 5");
        Check.due("a ninth LAW", x.law(), -1);
        Check.due("its TAPE stays", x.count(8), 8);
        Check.due("more behind it", x.feed(0, 0, 0, 0, 0), 28);
    }

    /** booth: "NONE: there are 8, one is at the PLACE". */
    private static void eightBooths() {
        Twins.refused("a ninth BOOTH", Towns::full, x -> x.booth(8, 5, 0), -1);
        Counted x = Twins.of(y -> {
            times(12, () -> y.place(7));
            Check.law(y, "rent 9");
        });
        for (int i = 0; i < 8; i++) {
            Check.due("BOOTH " + i, x.booth(i, 5, 0), i);
        }
        for (int place = 0; place < 2; place++) {
            int p = place;
            Twins.refused("one is at PLACE " + p, Towns::some, y -> y.booth(p, 5, 0), -1);
            Twins.refused("one is at PLACE " + p, Towns::some, y -> y.move(1 - p, p), -1);
        }
        Counted y = Twins.of(Towns::some);
        Check.due("MOVED to 3", y.move(0, 3), 0);
        Check.due("one is at 3", y.booth(3, 5, 0), -1);
        Check.due("none is at 0", y.booth(0, 5, 0), 2);
        Check.due("one is at 0", y.move(1, 0), -1);
        Check.due("none is at 2", y.move(1, 2), 1);
    }

    /** paper: "NONE, and nothing happens, for others, or if it would be above 9999". */
    private static void paperFull() {
        Twins.Past none = x -> {
            x.place(7);
            Check.law(x, "rent 9");
            x.booth(0, 5, 0);
        };
        Twins.range("paper for n strips more (1 to 9999)", none, (x, n) -> x.paper(0, n), 1, 9999, -1);
        Twins.Past most = x -> {
            none.tell(x);
            Check.due("paper", x.paper(0, 9998), 9998);
        };
        Twins.refused("paper above 9999", most, x -> x.paper(0, 2), -1);
        Twins.refused("paper far above 9999", most, x -> x.paper(0, 9999), -1);
        Counted x = Twins.of(most);
        Check.due("paper, 9999 at most", x.paper(0, 1), 9999);
        Check.due("paper above 9999", x.paper(0, 1), -1);
        Check.due("a strip takes one", x.strip(0, 1, 1), 0);
        Check.due("paper again", x.paper(0, 1), 9999);
        Check.due("paper there", x.of(0, 3), 9999);
    }

    private static void strips(Counted x, int n) {
        for (int i = 0; i < n; i++) {
            Check.due("strip", x.strip(i % 2, 9 + i % 2, 1), i % 2 == 0 ? 4 : 0);
        }
    }

    /** "STRIPS: 400 in all": of all BOOTHS, SPOILT or not. */
    private static void fourHundredStrips() {
        Twins.Past full = x -> {
            two(x, "dark head=9;weak 0 1");
            strips(x, 400);
        };
        Twins.refused("STRIP 401 in BOOTH 0", full, x -> x.strip(0, 5, 5), -1);
        Twins.refused("STRIP 401 in BOOTH 1", full, x -> x.strip(1, 9, 5), -1);
        Counted x = Twins.of(full);
        Check.due("STRIPS", x.count(4), 400);
        Check.due("paper of BOOTH 0", x.of(0, 3), 10);
        Check.due("COUNTER of BOOTH 1", x.of(1, 5), 200);
        Check.due("good ones", x.spoilt(-1, 0), 200);
        Check.due("SPOILT ones", x.spoilt(-1, 4), 200);
        Check.due("those of BOOTH 1", x.again(1, 0, 0), 200);
    }

    /** All STRIPS of one BOOTH, by BATHS that tire to the last of them. */
    private static void fourHundredOfOne() {
        Counted x = Towns.house("tire 0 2;dark 1=1", 2);
        Check.law(x, "tire 0 2;weak 0 202");
        Check.law(x, "tire 0 2;weak 0 203");
        Check.law(x, "off strips=399 and box=798;tire 0 1;weak 0 1");
        x.paper(0, 380);
        times(400, () -> Check.due("dark", x.strip(0, 1, 1), 4));
        Check.due("no paper, and 400", x.strip(0, 1, 1), -1);
        Check.due("STRENGTH", x.of(0, 0), 200);
        Check.due("202 isn't below 202", x.again(0, 1, 1), 0);
        Check.due("202 is below 203", x.again(0, 2, 1), 1);
        Check.due("COUNTER 399, BOX 798 ahead of the last", x.again(0, 3, 5), 1);
        Check.due("all are dark", x.again(0, 0, 4), 400);
        Check.due("whatever is CHANGED", x.with(0, 0, 0), 400);
        Check.due("FINEST, of several the first", x.finest(0, 0), 0);
        Check.due("RENT of all", x.rent(0, 0, 0, 0), 0);
    }

    /** STRIPS, CHANGES, emptyings and DAYS in their order, as many as there can be in 512 calls. */
    private static void allThatCame() {
        Counted x = Towns.house("tire 1 10", 2);
        Check.law(x, "tire 1 10;weak 1 990;age 1 1 if box=2");
        x.paper(0, 380);
        for (int i = 0; i < 100; i++) {
            // 1000, then 990, or 989 where a DAY went by with two coins in the BOX
            x.change(0, 1);
            x.strip(0, 1, 1);
            if (i % 4 == 0) {
                x.clock(i / 4 + 1);
            }
            x.strip(0, 1, 1);
            x.empty(0);
        }
        Check.due("25 by the age", x.again(0, 1, 2), 25);
        times(40, () -> x.strip(0, 1, 1));
        Check.due("and the last 40, from 980 on", x.again(0, 1, 2), 65);
        Check.due("good ones", x.again(0, 1, 0), 175);
        Check.due("STRIPS", x.count(4), 240);
    }

    /** "CHANGES: 100 in all": of all BOOTHS and BATHS. */
    private static void hundredChanges() {
        Twins.Past full = x -> {
            two(x, "tire 0 7;tire 1 8;tire 2 9;weak 0 990");
            for (int i = 0; i < 100; i++) {
                Check.due("CHANGE " + i, x.change(i % 2, i % 3), 1000);
            }
            x.strip(0, 5, 5);
            x.strip(0, 5, 5);
            x.strip(1, 5, 5);
        };
        for (int bath = 0; bath < 3; bath++) {
            int b = bath;
            Twins.refused("CHANGE 101 of BATH " + b, full, x -> x.change(0, b), -1);
            Twins.refused("CHANGE 101 in BOOTH 1", full, x -> x.change(1, b), -1);
        }
        Counted x = Twins.of(full);
        Check.due("CHANGES", x.count(5), 100);
        Check.due("a change too many", x.change(0, 2), -1);
        Check.due("STRENGTH of BATH 2", x.of(0, 2), 982);
        Check.due("SILVER", x.of(0, 7), 0);
        Check.due("one more is asked for", x.with(0, 0, 0), 0);
    }

    /** "READINGS, 100 at most": "how many there are; NONE: 100". */
    private static void hundredReadings() {
        Twins.Past full = x -> {
            two(x, "rent 9");
            x.clock(2);
            for (int i = 1; i <= 100; i++) {
                Check.due("READING " + i, x.reading(i % 2, i % 3, i, 2 * i), i);
            }
        };
        Twins.refused("READING 101", full, x -> x.reading(0, 2, 5, 5), -1);
        Twins.refused("READING 101 of BOOTH 1", full, x -> x.reading(1, 1, 5, 5), -1);
        Counted x = Twins.of(full);
        Check.due("READINGS", x.count(6), 100);
        // of BOOTH 0 the last of day 2 is 98, the last of day 1 is 100
        Check.due("the last ones count", x.agree(0, 2, 0), -2);
        Check.due("their coins", x.agree(0, 2, 1), -4);
    }

    /** "CLAIMS, 100 at most": "its number; NONE: there are 100". */
    private static void hundredClaims() {
        Twins.Past full = x -> {
            two(x, "dark head=9");
            x.strip(0, 9, 1);
            x.clock(2);
            for (int i = 0; i < 100; i++) {
                Check.due("CLAIM " + i, x.claim(i % 32, i % 2, i % 3), i);
            }
        };
        Twins.refused("CLAIM 101", full, x -> x.claim(5, 0, 0), -1);
        Twins.refused("CLAIM 101 of BOOTH 1", full, x -> x.claim(31, 1, 2), -1);
        Counted x = Twins.of(full);
        Check.due("CLAIMS", x.count(7), 100);
        Check.due("the first one is FAIR", x.fair(0, 0), 1);
        Check.due("CLAIM 99", x.fair(99, 0), 0);
        Check.due("CLAIM 100", x.fair(100, 0), -1);
        // of 0 to 3 there are four, the first of 0 is FAIR
        Check.due("SUSPECT", x.suspect(0), 1);
        Check.due("not FAIR", x.suspect(1), 4);
        Check.due("TWICE: 99 less 6 pairs", x.suspect(2), 93);
    }

    /** What there is at most is counted as it is in the IMAGE that was gone back to. */
    private static void limitsOfImages() {
        Counted x = new Counted();
        two(x, "rent 9");
        times(99, () -> x.change(0, 0));
        times(99, () -> x.reading(0, 0, 0, 0));
        times(99, () -> x.claim(0, 0, 0));
        times(9, () -> x.place(0));
        x.image(3);
        for (int i = 0; i < 3; i++) {
            Check.due("CHANGE 100", x.change(0, 0), 1000);
            Check.due("CHANGE 101", x.change(0, 0), -1);
            Check.due("READING 100", x.reading(0, 0, 0, 0), 100);
            Check.due("READING 101", x.reading(0, 0, 0, 0), -1);
            Check.due("CLAIM 99", x.claim(0, 0, 0), 99);
            Check.due("CLAIM 100", x.claim(0, 0, 0), -1);
            Check.due("PLACE 11", x.place(0), 11);
            Check.due("PLACE 12", x.place(0), -1);
            for (int b = 2; b < 8; b++) {
                Check.due("BOOTH " + b, x.booth(b, 1, 0), b);
            }
            Check.due("BOOTH 8", x.booth(8, 1, 0), -1);
            Check.due("paper", x.paper(0, 9789), 9999);
            Check.due("paper above", x.paper(0, 1), -1);
            Check.due("back", x.back(3), 0);
        }
        Counted y = new Counted();
        two(y, "dark head=9");
        strips(y, 399);
        y.image(0);
        for (int i = 0; i < 3; i++) {
            Check.due("STRIP 400", y.strip(1, 10, 1), 0);
            Check.due("STRIP 401", y.strip(0, 9, 1), -1);
            Check.due("back", y.back(0), 0);
            Check.due("STRIPS", y.count(4), 399);
        }
    }

    /** "An object is used for at most 512 calls": the last of them is answered as the first. */
    private static void lastCall() {
        Counted x = new Counted();
        two(x, "tire 0 1;weak 0 800");
        times(200, () -> x.strip(0, 1, 1));
        while (x.left() > 1) {
            x.change(1, 1);
        }
        Check.due("the last call", x.strip(0, 1, 1), 0);
    }
}
