/** Pasts that the tests share. */
final class Towns {
    private Towns() {
    }

    /** A place 0 of light 50 with booth 0 of this price by this law, paper for 20; a place 1 of light 60. */
    static Counted house(String law, int price) {
        Counted x = new Counted();
        x.place(50);
        x.place(60);
        Check.due("law " + law, Check.law(x, law), 0);
        Check.due("booth", x.booth(0, price, 0), 0);
        Check.due("paper", x.paper(0, 20), 20);
        return x;
    }

    /**
     * Some of everything: places 0 to 3 (booths at 0 and 1), laws 0 to 2, NOW 6, booth 1 since day 2,
     * five claims, images 0 and 2, a text on the tape.
     */
    static void some(Counted x) {
        for (int light : new int[] {50, 60, 0, 99}) {
            x.place(light);
        }
        x.miles(0, 1, 10);
        x.miles(0, 2, 7);
        x.miles(1, 2, 30);
        x.miles(3, 1, 5);
        x.miles(3, 2, 8);
        Check.law(x, "tire 0 90;tire 1 7+stool;tire 2 40;age 2 3;weak 0 800;weak 2 700;off head=13;"
            + "refund strips>3;rent strips*5+box-day;refuse head>40");
        Check.law(x, "tire 1 60;weak 1 900;refuse stool>3;rent 4");
        Check.law(x, "age 0 20;weak 0 960;dark heat>30");
        x.image(2);
        firstDays(x);
        x.image(0);
        laterDays(x);
        Check.tape(x, "dark heat>20;rent 9");
    }

    private static void firstDays(Counted x) {
        x.booth(0, 10, 0);
        x.paper(0, 12);
        x.call(0, 40);
        x.strip(0, 20, 4);
        x.strip(0, 13, 2);
        x.clock(2);
        x.booth(1, 25, 1);
        x.paper(1, 9);
        x.call(1, 60);
        x.strip(1, 70, 5);
        x.strip(1, 30, 0);
        x.strip(1, 31, 3);
        x.takes(0, 2, 20, 50);
        x.reading(0, 0, 2, 20);
    }

    private static void laterDays(Counted x) {
        x.empty(0);
        x.clock(4);
        x.strip(0, 50, 0);
        x.strip(0, 60, 3);
        x.change(0, 2);
        x.change(1, 1);
        x.strip(0, 13, 5);
        x.reading(0, 4, 6, 70);
        x.reading(1, 3, 3, 70);
        x.reading(1, 2, 1, 5);
        x.claim(3, 0, 4);
        x.claim(3, 0, 4);
        x.claim(0, 0, 4);
        x.claim(31, 1, 2);
        x.heat(4, 20);
        x.clock(6);
        x.claim(0, 0, 0);
        x.takes(1, 0, 7, 9);
        x.strip(1, 13, 9);
    }

    /** As many places, laws and booths as there may be, booths 0 to 7 at places 0 to 7. */
    static void full(Counted x) {
        for (int i = 0; i < 12; i++) {
            x.place(9 * i);
            x.miles(i, 0, 3 * i);
            x.miles(i, 1, 50 - 3 * i);
        }
        for (int i = 0; i < 8; i++) {
            Check.law(x, "weak 0 " + (900 + i));
        }
        for (int i = 0; i < 8; i++) {
            x.booth(i, 10 + i, 7 - i);
            x.paper(i, 3);
            x.call(i, 70 - i);
            x.takes(i, 11 - i, 10 * i, 20 * i);
        }
        x.strip(7, 9, 9);
        x.strip(0, 9, 9);
    }

    /** The last day, and a booth that came on it. */
    static void lastDay(Counted x) {
        some(x);
        x.clock(399);
        x.booth(3, 5, 2);
        x.paper(2, 4);
        x.strip(2, 30, 3);
    }
}
