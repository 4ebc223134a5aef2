/** All promises: long runs of drawn calls, the same each time, beside the naive model. */
public final class ModelTest {
    private static final int RUNS = 600;
    /** A text is fed in twenty calls, cut ahead and behind, and read. */
    private static final int MOST_AT_ONCE = 23;

    private static long seed;
    private static Counted x;
    private static Model m;
    private static int run;

    public static void main(String[] args) {
        int runs = args.length > 0 ? Integer.parseInt(args[0]) : RUNS;
        for (run = 0; run < runs; run++) {
            seed = 1000003L * run + 17;
            x = new Counted();
            m = new Model();
            begin();
            while (x.left() >= MOST_AT_ONCE) {
                call(pick(46));
            }
        }
        for (run = 0; run < 20 * runs; run++) {
            seed = 7777777L * run + 5;
            x = new Counted();
            m = new Model();
            text(anyText());
        }
        Check.end();
    }

    private static int pick(int n) {
        seed = seed * 6364136223846793005L + 1442695040888963407L;
        return (int) ((seed >>> 33) % n);
    }

    /** Mostly from 0 to high, at times beside it. */
    private static int near(int high) {
        int n = pick(40);
        if (n == 0) {
            return -1;
        }
        if (n == 1) {
            return high + 1;
        }
        if (n == 2) {
            return pick(2) == 0 ? Integer.MIN_VALUE : Integer.MAX_VALUE;
        }
        return n == 3 ? high : pick(high + 1);
    }

    private static String of(String... all) {
        return all[pick(all.length)];
    }

    private static void due(String call, long got, long want) {
        Check.due("run " + run + ": " + call, got, want);
    }

    private static void begin() {
        int places = 1 + pick(12);
        for (int i = 0; i < places; i++) {
            int light = pick(100);
            due("place", x.place(light), m.place(light));
        }
        for (int i = 0; i < 3; i++) {
            text(lawText());
        }
        for (int i = 0; i < 4; i++) {
            call(7);
        }
        for (int i = 0; i < 8; i++) {
            due("paper", x.paper(i, 60), m.paper(i, 60));
        }
    }

    private static void text(String text) {
        String cut = text.length() > 400 ? text.substring(0, 400) : text;
        due("end", x.end(0), m.end(0));
        for (int at = 0; at < cut.length(); at += 20) {
            int[] n = new int[5];
            for (int i = 0; i < 5; i++) {
                n[i] = Check.four(cut, at + 4 * i);
            }
            due("feed", x.feed(n[0], n[1], n[2], n[3], n[4]), m.feed(n[0], n[1], n[2], n[3], n[4]));
        }
        due("end", x.end(cut.length()), m.end(cut.length()));
        due("law " + cut, x.law(), m.law());
    }

    private static String value() {
        return pick(2) == 0 ? "" + pick(pick(4) == 0 ? 100000 : 50)
            : of("head", "stool", "light", "heat", "day", "strength", "strips", "box", "place");
    }

    private static String sum() {
        StringBuilder s = new StringBuilder(value());
        for (int n = pick(3); n > 0; n--) {
            s.append(of("+", "-", "*", "/", " + ", " / ", "*", " -")).append(value());
        }
        return s.toString();
    }

    private static String fact(int deep) {
        int n = pick(8);
        if (n == 0 && deep > 0) {
            return "not " + fact(deep - 1);
        }
        if (n == 1 && deep > 0) {
            return "[" + of("", " ") + test(deep - 1) + "]";
        }
        return of("head", "stool", "heat", "light", "strips", "box", "day", "strength/20", sum())
            + of("<", "<=", "=", ">=", ">", " < ", " > ") + (pick(3) > 0 ? "" + pick(60) : sum());
    }

    private static String test(int deep) {
        StringBuilder s = new StringBuilder(fact(deep));
        for (int n = pick(3); n > 0; n--) {
            s.append(of(" and ", " or ")).append(fact(deep));
        }
        return s.toString();
    }

    private static String clause() {
        String may = pick(2) == 0 ? "" : " if " + test(2);
        switch (pick(12)) {
            case 0:
            case 1:
                return "tire " + pick(3) + " " + (pick(3) == 0 ? sum() : "" + pick(90)) + may;
            case 2:
            case 3:
                return "age " + pick(3) + " " + (pick(3) == 0 ? sum() : of("box/3", "strips*9", "" + pick(30))) + may;
            case 4:
            case 5:
            case 6:
                return "weak " + pick(3) + " " + (700 + pick(300));
            case 7:
                return "dark " + test(3);
            case 8:
                return "off " + test(3);
            case 9:
                return "refuse " + test(2);
            case 10:
                return "refund " + test(2);
            default:
                return "rent " + sum() + may;
        }
    }

    private static String lawText() {
        StringBuilder s = new StringBuilder(clause());
        for (int n = pick(8); n > 0; n--) {
            s.append(of(";", "; ")).append(clause());
        }
        return s.toString();
    }

    /** A law, often with some bytes or words that spoil it. */
    private static String anyText() {
        StringBuilder s = new StringBuilder();
        int n = pick(3) == 0 ? pick(18) : pick(4);
        s.append(clause());
        for (int i = 0; i < n; i++) {
            s.append(";").append(pick(3) == 0 ? "age 0 1" : clause());
        }
        if (pick(6) == 0) {
            s.append(" if ").append(of("not ", "[").repeat(8 + pick(5))).append("1=1").append("]".repeat(pick(12)));
        }
        if (pick(6) == 0) {
            s.append(of(";rent ", ";dark ", "+", " and ")).append("1+".repeat(20 + pick(40))).append("1");
        }
        for (int wrong = pick(3); wrong > 0; wrong--) {
            int at = pick(s.length() + 1);
            if (pick(2) == 0 && at < s.length()) {
                s.deleteCharAt(at);
            } else {
                s.insert(at, of(" ", ";", "[", "]", "<", "=", ">", "+", "*", "1", "00000", "x", "not ", " and ", " or ",
                    " if ", "123456", "head", "\u0000", "\u00ff", "(", "weak 0 1;"));
            }
        }
        return s.toString();
    }

    private static int booth() {
        return pick(10) == 0 ? near(8) : pick(Math.max(1, m.s.booths.size()));
    }

    private static int place() {
        return pick(10) == 0 ? near(12) : pick(Math.max(1, m.s.lights.size()));
    }

    private static int law() {
        return pick(10) == 0 ? near(8) : pick(Math.max(1, m.laws.size()));
    }

    private static int day() {
        return pick(10) == 0 ? near(399) : pick(m.s.now + 1);
    }

    private static long orders(int n, int of) {
        long all = 1;
        for (int i = 0; i < n; i++) {
            all *= of - i;
        }
        return all;
    }

    private static void call(int kind) {
        if (kind < 12) {
            tell(kind);
        } else if (kind < 24) {
            live(kind);
        } else if (kind < 36) {
            ask(kind);
        } else {
            plan(kind);
        }
    }

    private static void tell(int kind) {
        int a = booth();
        int b = place();
        int c = place();
        int d = near(999);
        switch (kind) {
            case 0:
                if (pick(5) == 0) {
                    due("place", x.place(d), m.place(d));
                }
                break;
            case 1:
            case 2:
                int n = pick(3) > 0 ? pick(40) : d;
                due("miles", x.miles(b, c, n), m.miles(b, c, n));
                break;
            case 3:
                int day = near(399);
                int heat = near(40);
                due("heat", x.heat(day, heat), m.heat(day, heat));
                break;
            case 4:
                if (pick(4) == 0) {
                    text(pick(3) == 0 ? anyText() : lawText());
                }
                break;
            case 5:
                due("feed", x.feed(a, b, c, d, 7), m.feed(a, b, c, d, 7));
                break;
            case 6:
                int end = near(400);
                due("end", x.end(end), m.end(end));
                break;
            case 7:
                int law = law();
                int price = pick(4) == 0 ? near(999) : 1 + pick(30);
                due("booth", x.booth(b, price, law), m.booth(b, price, law));
                break;
            case 8:
                due("move", x.move(a, b), m.move(a, b));
                break;
            case 9:
                int sheets = pick(4) == 0 ? near(9999) : near(60);
                due("paper", x.paper(a, sheets), m.paper(a, sheets));
                break;
            case 10:
                int least = near(9999);
                int most = pick(5) == 0 ? near(9999) : Math.min(9999, Math.max(least, 0) + pick(500));
                due("takes", x.takes(a, b, least, most) ? 1 : 0, m.takes(a, b, least, most) ? 1 : 0);
                break;
            default:
                int worth = pick(2) == 0 ? near(9999) : pick(300);
                due("call", x.call(a, worth), m.call(a, worth));
                break;
        }
    }

    private static void live(int kind) {
        int a = booth();
        int b = near(2);
        switch (kind) {
            case 12:
            case 13:
            case 14:
            case 15:
            case 16:
                int head = near(99);
                int stool = near(20);
                for (int i = pick(4); i >= 0; i--) {
                    due("strip", x.strip(a, head, stool), m.strip(a, head, stool));
                }
                break;
            case 17:
            case 18:
                int day = pick(30) == 0 ? near(399) : Math.min(399, m.s.now + pick(5));
                due("clock", x.clock(day) ? 1 : 0, m.clock(day) ? 1 : 0);
                break;
            case 19:
                due("change", x.change(a, b), m.change(a, b));
                break;
            case 20:
                due("empty", x.empty(a), m.empty(a));
                break;
            case 21:
                int told = day();
                int counter = near(99999);
                int coins = near(99999999);
                due("reading", x.reading(a, told, counter, coins), m.reading(a, told, counter, coins));
                break;
            case 22:
                int of = day();
                int who = pick(3) > 0 ? pick(3) : near(31);
                due("claim", x.claim(who, a, of), m.claim(who, a, of));
                break;
            default:
                int k = near(3);
                if (pick(3) == 0) {
                    due("image", x.image(k), m.image(k));
                } else if (pick(run % 5 == 0 ? 1 : 6) == 0) {
                    due("back", x.back(k), m.back(k));
                }
                break;
        }
    }

    private static void ask(int kind) {
        int a = booth();
        int some = pick(4) == 0 ? -1 : a;
        int b = near(2);
        int by = near(5);
        int day = day();
        int law = law();
        switch (kind) {
            case 24:
                int what = near(7);
                due("of", x.of(a, what), m.of(a, what));
                break;
            case 25:
                due("spoilt", x.spoilt(some, by), m.spoilt(some, by));
                break;
            case 26:
            case 27:
                due("again " + a + " " + law + " " + by, x.again(a, law, by), m.again(a, law, by));
                break;
            case 28:
                due("with " + a + " " + b + " " + day, x.with(a, b, day), m.with(a, b, day));
                break;
            case 29:
                if (pick(4) == 0) {
                    due("finest " + a + " " + b, x.finest(a, b), m.finest(a, b));
                }
                break;
            case 30:
                int one = near(1);
                due("agree", x.agree(a, day, one), m.agree(a, day, one));
                break;
            case 31:
                int claim = near(Math.max(0, m.s.claims.size() - 1));
                int paid = near(1);
                due("fair", x.fair(claim, paid), m.fair(claim, paid));
                break;
            case 32:
                due("suspect", x.suspect(b), m.suspect(b));
                break;
            case 33:
                due("refused", x.refused(law, some), m.refused(law, some));
                break;
            case 34:
                int old = law();
                due("newer", x.newer(law, old), m.newer(law, old));
                break;
            default:
                int count = near(8);
                due("count " + count, x.count(count), m.count(count));
                break;
        }
    }

    private static void plan(int kind) {
        int booths = m.s.booths.size();
        int a = booth();
        int b = place();
        int what = pick(3) == 0 ? -1 : near(7);
        int from = day();
        int to = pick(5) == 0 ? day() : Math.max(from, day());
        switch (kind) {
            case 36:
            case 37:
                int law = law();
                due("rent", x.rent(law, a, from, to), m.rent(law, a, from, to));
                break;
            case 38:
                due("cheapest", x.cheapest(a, from, to), m.cheapest(a, from, to));
                break;
            case 39:
            case 40:
                int set = pick(10) == 0 ? near(255) : pick(1 << booths);
                if (Integer.bitCount(set) < 7 || pick(10) == 0) {
                    due("round", x.round(set, b, what), m.round(set, b, what));
                }
                break;
            case 41:
                int coins = pick(3) == 0 ? near(99) : pick(5);
                if (booths < 6 || booths < 8 && pick(50) == 0) {
                    int which = near(1);
                    due("worthy", x.worthy(b, coins, which), m.worthy(b, coins, which));
                }
                break;
            case 42:
            case 43:
                boolean most = pick(2) == 0;
                int cost = pick(3) == 0 ? near(9999) : pick(300);
                if (orders(booths, m.s.lights.size()) <= 20000) {
                    due("placed", x.placed(most, cost, what), m.placed(most, cost, what));
                }
                break;
            default:
                break;
        }
    }
}
