import java.util.ArrayList;
import java.util.List;

/** The document once more, as naively as it goes: the past as a list, every question asked of it anew. */
final class Model {
    static final int UNTOLD = -1000000000;

    static final class Fault extends RuntimeException {
        final int place;
        final int kind;

        Fault(int place, int kind) {
            this.place = place;
            this.kind = kind;
        }
    }

    /** What the words mean. */
    static final class Where {
        long head, stool, light, heat, day, strength, strips, box, place;

        long of(String word) {
            switch (word) {
                case "head": return head;
                case "stool": return stool;
                case "light": return light;
                case "heat": return heat;
                case "day": return day;
                case "strength": return strength;
                case "strips": return strips;
                case "box": return box;
                case "place": return place;
                default: throw new IllegalStateException(word);
            }
        }
    }

    interface Sum {
        long is(Where w);
    }

    interface Test {
        boolean holds(Where w);
    }

    static final class Clause {
        String sort;
        int bath;
        Sum sum;
        Test test;
        int weak;
    }

    /** Reads the text byte by byte, throwing its first fault. */
    static final class Text {
        final String text;
        int at = 0;
        int used = 0;

        Text(String text) {
            this.text = text;
        }

        void blanks() {
            while (at < text.length() && text.charAt(at) == ' ') {
                at++;
            }
        }

        char look() {
            blanks();
            return at < text.length() ? text.charAt(at) : (char) 999;
        }

        String word() {
            blanks();
            int to = at;
            while (to < text.length() && text.charAt(to) >= 'a' && text.charAt(to) <= 'z') {
                to++;
            }
            return text.substring(at, to);
        }

        boolean takes(String word) {
            if (word().equals(word)) {
                at += word.length();
                return true;
            }
            return false;
        }

        int number(int high, boolean value) {
            if (look() < '0' || look() > '9') {
                throw new Fault(at, 0);
            }
            int to = at;
            while (to < text.length() && text.charAt(to) >= '0' && text.charAt(to) <= '9') {
                to++;
            }
            if (to - at > 5 || Integer.parseInt(text.substring(at, to)) > high) {
                throw new Fault(at, 1);
            }
            if (value) {
                use();
            }
            int n = Integer.parseInt(text.substring(at, to));
            at = to;
            return n;
        }

        void use() {
            if (++used > 60) {
                throw new Fault(at, 3);
            }
        }

        List<Clause> all() {
            List<Clause> clauses = new ArrayList<>();
            do {
                if (!clauses.isEmpty()) {
                    at++;
                }
                String sort = word();
                if (!List.of("tire", "age", "weak", "dark", "off", "refuse", "refund", "rent").contains(sort)) {
                    throw new Fault(at, 0);
                }
                if (clauses.size() == 14) {
                    throw new Fault(at, 4);
                }
                at += sort.length();
                clauses.add(clause(sort, clauses));
            } while (look() == ';');
            if (at < text.length()) {
                throw new Fault(at, 0);
            }
            return clauses;
        }

        Clause clause(String sort, List<Clause> ahead) {
            Clause c = new Clause();
            c.sort = sort;
            if (List.of("tire", "age", "weak").contains(sort)) {
                blanks();
                int place = at;
                c.bath = number(2, false);
                for (Clause other : ahead) {
                    if (sort.equals("weak") && other.sort.equals("weak") && other.bath == c.bath) {
                        throw new Fault(place, 4);
                    }
                }
            }
            if (sort.equals("weak")) {
                c.weak = number(999, false);
            } else if (List.of("tire", "age", "rent").contains(sort)) {
                c.sum = sum();
                if (takes("if")) {
                    c.test = test(0);
                }
            } else {
                c.test = test(0);
            }
            return c;
        }

        Test test(int deep) {
            Test one = part(deep);
            if (takes("or")) {
                Test other = test(deep);
                return w -> one.holds(w) || other.holds(w);
            }
            return one;
        }

        Test part(int deep) {
            Test one = fact(deep);
            if (takes("and")) {
                Test other = part(deep);
                return w -> one.holds(w) && other.holds(w);
            }
            return one;
        }

        Test fact(int deep) {
            boolean opens = look() == '[';
            if ((opens || word().equals("not")) && deep == 10) {
                throw new Fault(at, 2);
            }
            if (opens) {
                at++;
                Test inner = test(deep + 1);
                if (look() != ']') {
                    throw new Fault(at, 0);
                }
                at++;
                return inner;
            }
            if (takes("not")) {
                Test inner = fact(deep + 1);
                return w -> !inner.holds(w);
            }
            Sum a = sum();
            look();
            String sign = "";
            for (String s : new String[] {"<", "=", ">", "<=", ">="}) {
                if (text.startsWith(s, at)) {
                    sign = s;
                }
            }
            if (sign.isEmpty()) {
                throw new Fault(at, 0);
            }
            use();
            at += sign.length();
            Sum b = sum();
            switch (sign) {
                case "<": return w -> a.is(w) < b.is(w);
                case "<=": return w -> a.is(w) <= b.is(w);
                case "=": return w -> a.is(w) == b.is(w);
                case ">=": return w -> a.is(w) >= b.is(w);
                default: return w -> a.is(w) > b.is(w);
            }
        }

        Sum sum() {
            Sum s = term();
            while (look() == '+' || look() == '-') {
                boolean plus = look() == '+';
                at++;
                Sum a = s;
                Sum b = term();
                s = plus ? w -> a.is(w) + b.is(w) : w -> a.is(w) - b.is(w);
            }
            return s;
        }

        Sum term() {
            Sum s = value();
            while (look() == '*' || look() == '/') {
                boolean times = look() == '*';
                at++;
                Sum a = s;
                Sum b = value();
                s = times ? w -> a.is(w) * b.is(w) : w -> b.is(w) == 0 ? 0 : a.is(w) / b.is(w);
            }
            return s;
        }

        Sum value() {
            if (look() >= '0' && look() <= '9') {
                long n = number(99999, true);
                return w -> n;
            }
            String word = word();
            if (!List.of("head", "stool", "light", "heat", "day", "strength", "strips", "box", "place").contains(word)) {
                throw new Fault(at, 0);
            }
            use();
            at += word.length();
            return w -> w.of(word);
        }
    }

    static long sumOf(List<Clause> law, String sort, int bath, Where w) {
        for (Clause c : law) {
            if (c.sort.equals(sort) && c.bath == bath && (c.test == null || c.test.holds(w))) {
                return c.sum.is(w);
            }
        }
        return 0;
    }

    static boolean holds(List<Clause> law, String sort, Where w) {
        boolean some = false;
        for (Clause c : law) {
            some |= c.sort.equals(sort) && c.test.holds(w);
        }
        return some;
    }

    static int weakOf(List<Clause> law, int bath) {
        for (Clause c : law) {
            if (c.sort.equals("weak") && c.bath == bath) {
                return c.weak;
            }
        }
        return 0;
    }

    static final class Booth {
        int place, price, law, came, paper, box, counter, silver, worth;
        int[] strength = {1000, 1000, 1000};
        int[][] takes = new int[12][2];

        Booth copy() {
            Booth b = new Booth();
            b.place = place;
            b.price = price;
            b.law = law;
            b.came = came;
            b.paper = paper;
            b.box = box;
            b.counter = counter;
            b.silver = silver;
            b.worth = worth;
            b.strength = strength.clone();
            for (int i = 0; i < 12; i++) {
                b.takes[i] = takes[i].clone();
            }
            return b;
        }
    }

    /** kind 's': head, stool, by; 'c': bath; 'd': a day ended; 'e': emptied; 'n': a booth came. */
    static final class Event {
        char kind;
        int booth, day, a, b, by, strips, box;
    }

    static final class State {
        int now;
        int[] heat = new int[400];
        List<Integer> lights = new ArrayList<>();
        int[][] miles = new int[12][12];
        List<Booth> booths = new ArrayList<>();
        List<Event> past = new ArrayList<>();
        List<int[]> readings = new ArrayList<>();
        List<int[]> claims = new ArrayList<>();

        State() {
            java.util.Arrays.fill(heat, 15);
        }

        State copy() {
            State s = new State();
            s.now = now;
            s.heat = heat.clone();
            s.lights = new ArrayList<>(lights);
            for (int i = 0; i < 12; i++) {
                s.miles[i] = miles[i].clone();
            }
            for (Booth b : booths) {
                s.booths.add(b.copy());
            }
            s.past = new ArrayList<>(past);
            s.readings = new ArrayList<>(readings);
            s.claims = new ArrayList<>(claims);
            return s;
        }
    }

    State s = new State();
    final State[] images = new State[4];
    final List<List<Clause>> laws = new ArrayList<>();
    String tape = "";

    static boolean in(int n, int a, int b) {
        return n >= a && n <= b;
    }

    boolean noPlace(int p) {
        return !in(p, 0, s.lights.size() - 1);
    }

    boolean noBooth(int b) {
        return !in(b, 0, s.booths.size() - 1);
    }

    boolean noLaw(int l) {
        return !in(l, 0, laws.size() - 1);
    }

    int place(int light) {
        if (s.lights.size() == 12 || !in(light, 0, 99)) {
            return -1;
        }
        s.lights.add(light);
        return s.lights.size() - 1;
    }

    int miles(int a, int b, int n) {
        if (noPlace(a) || noPlace(b) || a == b || !in(n, 0, 999)) {
            return -1;
        }
        int was = s.miles[a][b];
        s.miles[a][b] = n;
        s.miles[b][a] = n;
        return was;
    }

    int heat(int day, int n) {
        if (!in(day, 0, 399) || !in(n, 0, 40)) {
            return -1;
        }
        int was = s.heat[day];
        s.heat[day] = n;
        return was;
    }

    int feed(int a, int b, int c, int d, int e) {
        if (tape.length() + 20 > 400) {
            return -1;
        }
        for (int n : new int[] {a, b, c, d, e}) {
            for (int i = 0; i < 4; i++) {
                tape += (char) (n >>> 24 - 8 * i & 255);
            }
        }
        return tape.length();
    }

    int end(int n) {
        if (!in(n, 0, tape.length())) {
            return -1;
        }
        tape = tape.substring(0, n);
        return n;
    }

    int law() {
        if (laws.size() == 8) {
            return -1;
        }
        String text = tape;
        tape = "";
        try {
            laws.add(new Text(text).all());
        } catch (Fault f) {
            return -2 - (1 + 8 * f.place + f.kind);
        }
        return laws.size() - 1;
    }

    int booth(int place, int price, int law) {
        if (s.booths.size() == 8 || noPlace(place) || !in(price, 1, 999) || noLaw(law)) {
            return -1;
        }
        for (Booth b : s.booths) {
            if (b.place == place) {
                return -1;
            }
        }
        Booth b = new Booth();
        b.place = place;
        b.price = price;
        b.law = law;
        b.came = s.now;
        s.booths.add(b);
        event('n', s.booths.size() - 1);
        return s.booths.size() - 1;
    }

    Event event(char kind, int booth) {
        Event e = new Event();
        e.kind = kind;
        e.booth = booth;
        e.day = s.now;
        s.past.add(e);
        return e;
    }

    int move(int booth, int place) {
        if (noBooth(booth) || noPlace(place)) {
            return -1;
        }
        for (Booth b : s.booths) {
            if (b.place == place) {
                return -1;
            }
        }
        int was = s.booths.get(booth).place;
        s.booths.get(booth).place = place;
        return was;
    }

    int paper(int booth, int n) {
        if (noBooth(booth) || !in(n, 1, 9999) || s.booths.get(booth).paper + n > 9999) {
            return -1;
        }
        return s.booths.get(booth).paper += n;
    }

    Where at(int booth, int day) {
        Where w = new Where();
        w.place = s.booths.get(booth).place;
        w.light = s.lights.get((int) w.place);
        w.day = day;
        w.heat = s.heat[day];
        return w;
    }

    /** By what a strip is spoilt; the strengths tire. */
    int judge(List<Clause> law, Where w, int[] strength) {
        int by = holds(law, "dark", w) ? 4 : holds(law, "off", w) ? 5 : 0;
        for (int bath = 2; bath >= 0; bath--) {
            if (strength[bath] < weakOf(law, bath)) {
                by = bath + 1;
            }
        }
        wear(law, "tire", w, strength);
        return by;
    }

    void wear(List<Clause> law, String sort, Where w, int[] strength) {
        for (int bath = 0; bath < 3; bath++) {
            w.strength = strength[bath];
            long less = sumOf(law, sort, bath, w);
            less = less < 0 ? 0 : less > 1000 ? 1000 : less;
            strength[bath] = less > strength[bath] ? 0 : strength[bath] - (int) less;
        }
        w.strength = 0;
    }

    List<Event> strips() {
        List<Event> all = new ArrayList<>();
        for (Event e : s.past) {
            if (e.kind == 's') {
                all.add(e);
            }
        }
        return all;
    }

    int changes() {
        int n = 0;
        for (Event e : s.past) {
            n += e.kind == 'c' ? 1 : 0;
        }
        return n;
    }

    int strip(int booth, int head, int stool) {
        if (noBooth(booth) || !in(head, 1, 99) || !in(stool, 0, 20) || strips().size() == 400) {
            return -1;
        }
        Booth b = s.booths.get(booth);
        if (b.paper == 0) {
            return -1;
        }
        Event e = event('s', booth);
        e.a = head;
        e.b = stool;
        e.strips = b.counter;
        e.box = b.box;
        Where w = at(booth, s.now);
        w.head = head;
        w.stool = stool;
        w.strips = b.counter;
        w.box = b.box;
        e.by = judge(laws.get(b.law), w, b.strength);
        b.paper--;
        b.box += b.price;
        b.counter++;
        return e.by;
    }

    boolean clock(int day) {
        if (!in(day, s.now, 399)) {
            return false;
        }
        while (s.now < day) {
            event('d', -1);
            for (int i = 0; i < s.booths.size(); i++) {
                Booth b = s.booths.get(i);
                Where w = at(i, s.now);
                w.strips = b.counter;
                w.box = b.box;
                wear(laws.get(b.law), "age", w, b.strength);
            }
            s.now++;
        }
        return true;
    }

    int change(int booth, int bath) {
        if (noBooth(booth) || !in(bath, 0, 2) || changes() == 100) {
            return -1;
        }
        Booth b = s.booths.get(booth);
        int was = b.strength[bath];
        b.strength[bath] = 1000;
        if (bath == 2) {
            b.silver += 1000 - was;
        }
        event('c', booth).a = bath;
        return was;
    }

    int empty(int booth) {
        if (noBooth(booth)) {
            return -1;
        }
        int was = s.booths.get(booth).box;
        s.booths.get(booth).box = 0;
        event('e', booth);
        return was;
    }

    int of(int booth, int what) {
        if (noBooth(booth) || !in(what, 0, 7)) {
            return -1;
        }
        Booth b = s.booths.get(booth);
        int[] all = {b.strength[0], b.strength[1], b.strength[2], b.paper, b.box, b.counter, b.place, b.silver};
        return all[what];
    }

    int spoilt(int booth, int by) {
        if (booth != -1 && noBooth(booth) || !in(by, 0, 5)) {
            return -1;
        }
        int n = 0;
        for (Event e : strips()) {
            n += (booth == -1 || e.booth == booth) && e.by == by ? 1 : 0;
        }
        return n;
    }

    /** Strips by their spoilers, with a change of a bath ahead of a day (none: bath -1). */
    int[] replay(int booth, List<Clause> law, int bath, int day) {
        int[] tally = new int[6];
        Booth b = s.booths.get(booth);
        int[] strength = {1000, 1000, 1000};
        int counter = 0;
        int box = 0;
        int now = -1;
        for (Event e : s.past) {
            if (e.kind == 'n' && e.booth == booth) {
                now = e.day;
            }
            if (now < 0) {
                continue;
            }
            if (e.kind == 'd') {
                Where w = at(booth, now);
                w.strips = counter;
                w.box = box;
                wear(law, "age", w, strength);
                now++;
                if (bath >= 0 && now == day) {
                    strength[bath] = 1000;
                }
            } else if (e.booth != booth) {
                continue;
            } else if (e.kind == 'c') {
                strength[e.a] = 1000;
            } else if (e.kind == 'e') {
                box = 0;
            } else if (e.kind == 's') {
                Where w = at(booth, now);
                w.head = e.a;
                w.stool = e.b;
                w.strips = counter;
                w.box = box;
                tally[judge(law, w, strength)]++;
                counter++;
                box += b.price;
            }
        }
        return tally;
    }

    int again(int booth, int law, int by) {
        if (noBooth(booth) || noLaw(law) || !in(by, 0, 5)) {
            return -1;
        }
        return replay(booth, laws.get(law), -1, 0)[by];
    }

    int with(int booth, int bath, int day) {
        if (noBooth(booth) || !in(bath, 0, 2) || !in(day, s.booths.get(booth).came, s.now)) {
            return -1;
        }
        int[] tally = replay(booth, laws.get(s.booths.get(booth).law), bath, day);
        return tally[1] + tally[2] + tally[3] + tally[4] + tally[5];
    }

    int finest(int booth, int bath) {
        if (noBooth(booth) || !in(bath, 0, 2)) {
            return -1;
        }
        int best = s.booths.get(booth).came;
        for (int day = best; day <= s.now; day++) {
            if (with(booth, bath, day) < with(booth, bath, best)) {
                best = day;
            }
        }
        return best;
    }

    int reading(int booth, int day, int counter, int coins) {
        if (noBooth(booth) || !in(day, 0, s.now) || !in(counter, 0, 99999) || !in(coins, 0, 99999999)
            || s.readings.size() == 100) {
            return -1;
        }
        s.readings.add(new int[] {booth, day, counter, coins, s.now});
        return s.readings.size();
    }

    int agree(int booth, int known, int what) {
        if (noBooth(booth) || !in(known, 0, 399) || !in(what, 0, 1)) {
            return 2 * UNTOLD;
        }
        int[][] lastOf = new int[400][];
        for (int[] r : s.readings) {
            if (r[0] == booth && r[4] <= known) {
                lastOf[r[1]] = r;
            }
        }
        List<int[]> in = new ArrayList<>();
        for (int[] r : lastOf) {
            if (r != null) {
                in.add(r);
            }
        }
        if (in.size() < 2) {
            return UNTOLD;
        }
        int[] late = in.get(in.size() - 1);
        int[] early = in.get(in.size() - 2);
        int n = 0;
        for (Event e : strips()) {
            n += e.booth == booth && e.day > early[1] && e.day <= late[1] ? 1 : 0;
        }
        return what == 0 ? late[2] - early[2] - n : late[3] - early[3] - n * s.booths.get(booth).price;
    }

    int claim(int who, int booth, int day) {
        if (!in(who, 0, 31) || noBooth(booth) || !in(day, 0, s.now) || s.claims.size() == 100) {
            return -1;
        }
        s.claims.add(new int[] {who, booth, day});
        return s.claims.size() - 1;
    }

    boolean[] fairness() {
        List<Event> left = new ArrayList<>();
        for (Event e : strips()) {
            if (e.by != 0) {
                left.add(e);
            }
        }
        boolean[] fair = new boolean[s.claims.size()];
        for (int i = 0; i < fair.length; i++) {
            int[] c = s.claims.get(i);
            for (Event e : left) {
                if (e.booth == c[1] && e.day == c[2]) {
                    fair[i] = true;
                    left.remove(e);
                    break;
                }
            }
        }
        return fair;
    }

    int fair(int claim, int what) {
        if (!in(claim, 0, s.claims.size() - 1) || !in(what, 0, 1)) {
            return -1;
        }
        if (fairness()[claim]) {
            return 1;
        }
        if (what == 0) {
            return 0;
        }
        int[] c = s.claims.get(claim);
        Where w = at(c[1], c[2]);
        for (Event e : strips()) {
            w.strips += e.booth == c[1] && e.day == c[2] ? 1 : 0;
        }
        for (int i = 0; i <= claim; i++) {
            w.box += s.claims.get(i)[0] == c[0] ? 1 : 0;
        }
        return holds(laws.get(s.booths.get(c[1]).law), "refund", w) ? 1 : 0;
    }

    int suspect(int what) {
        if (!in(what, 0, 2)) {
            return -1;
        }
        boolean[] fair = fairness();
        int[] of = new int[32];
        boolean[][] pairs = new boolean[8][400];
        int twice = 0;
        for (int i = 0; i < fair.length; i++) {
            int[] c = s.claims.get(i);
            if (!fair[i]) {
                of[c[0]]++;
                twice += pairs[c[1]][c[2]] ? 1 : 0;
                pairs[c[1]][c[2]] = true;
            }
        }
        int best = 0;
        for (int i = 0; i < 32; i++) {
            best = of[i] > of[best] ? i : best;
        }
        return what == 2 ? twice : what == 1 ? of[best] : of[best] == 0 ? -2 : best;
    }

    boolean refusedBy(int law, Event e) {
        if (e.by != 0) {
            return false;
        }
        Where w = at(e.booth, e.day);
        w.head = e.a;
        w.stool = e.b;
        return holds(laws.get(law), "refuse", w);
    }

    int refused(int law, int booth) {
        if (noLaw(law) || booth != -1 && noBooth(booth)) {
            return -1;
        }
        int n = 0;
        for (Event e : strips()) {
            n += (booth == -1 || e.booth == booth) && refusedBy(law, e) ? 1 : 0;
        }
        return n;
    }

    int newer(int law, int old) {
        if (noLaw(law) || noLaw(old)) {
            return UNTOLD;
        }
        int n = 0;
        for (Event e : strips()) {
            int price = s.booths.get(e.booth).price;
            if (refusedBy(law, e) && !refusedBy(old, e)) {
                n += price;
            }
            if (!refusedBy(law, e) && refusedBy(old, e)) {
                n -= price;
            }
        }
        return n;
    }

    int rent(int law, int booth, int from, int to) {
        if (noLaw(law) || noBooth(booth) || !in(from, 0, 399) || !in(to, from, 399)) {
            return UNTOLD;
        }
        Where w = at(booth, to);
        for (Event e : strips()) {
            w.strips += e.booth == booth && in(e.day, from, to) ? 1 : 0;
        }
        w.box = w.strips * s.booths.get(booth).price;
        long n = sumOf(laws.get(law), "rent", 0, w);
        return (int) (n < -99999999 ? -99999999 : n > 99999999 ? 99999999 : n);
    }

    int cheapest(int booth, int from, int to) {
        if (noBooth(booth) || !in(from, 0, 399) || !in(to, from, 399)) {
            return -1;
        }
        int best = 0;
        for (int i = 1; i < laws.size(); i++) {
            best = rent(i, booth, from, to) < rent(best, booth, from, to) ? i : best;
        }
        return best;
    }

    /** All orders, the first by their booths first. */
    void orders(List<Integer> left, List<Integer> order, List<List<Integer>> all) {
        if (left.isEmpty()) {
            all.add(new ArrayList<>(order));
        }
        for (Integer b : left) {
            List<Integer> less = new ArrayList<>(left);
            less.remove(b);
            order.add(b);
            orders(less, order, all);
            order.remove(order.size() - 1);
        }
    }

    int milesOf(List<Integer> order, int from) {
        int here = from;
        int n = 0;
        for (int b : order) {
            n += s.miles[here][s.booths.get(b).place];
            here = s.booths.get(b).place;
        }
        return n + s.miles[here][from];
    }

    List<Integer> bestOrder(int set, int from) {
        List<Integer> in = new ArrayList<>();
        for (int b = 0; b < s.booths.size(); b++) {
            if ((set >> b & 1) == 1) {
                in.add(b);
            }
        }
        List<List<Integer>> all = new ArrayList<>();
        orders(in, new ArrayList<>(), all);
        List<Integer> best = all.get(0);
        int least = milesOf(best, from);
        for (List<Integer> order : all) {
            int n = milesOf(order, from);
            if (n < least) {
                best = order;
                least = n;
            }
        }
        return best;
    }

    int round(int set, int from, int what) {
        if (!in(set, 0, (1 << s.booths.size()) - 1) || noPlace(from) || !in(what, -1, 7)) {
            return -2;
        }
        List<Integer> best = bestOrder(set, from);
        return what == -1 ? milesOf(best, from) : what < best.size() ? best.get(what) : -1;
    }

    int call(int booth, int n) {
        if (noBooth(booth) || !in(n, 0, 9999)) {
            return -1;
        }
        int was = s.booths.get(booth).worth;
        s.booths.get(booth).worth = n;
        return was;
    }

    int worthy(int from, int coins, int what) {
        if (noPlace(from) || !in(coins, 0, 99) || !in(what, 0, 1)) {
            return -1;
        }
        int best = 0;
        int most = 0;
        for (int set = 1; set < 1 << s.booths.size(); set++) {
            int n = -coins * milesOf(bestOrder(set, from), from);
            for (int b = 0; b < s.booths.size(); b++) {
                n += (set >> b & 1) * s.booths.get(b).worth;
            }
            if (n > most) {
                most = n;
                best = set;
            }
        }
        return what == 0 ? best : most;
    }

    boolean takes(int booth, int place, int least, int most) {
        if (noBooth(booth) || noPlace(place) || !in(least, 0, 9999) || !in(most, least, 9999)) {
            return false;
        }
        s.booths.get(booth).takes[place] = new int[] {least, most};
        return true;
    }

    private int[] bestSpots;
    private int bestTogether;

    void spots(boolean most, int cost, int[] at, int n, int together) {
        if (n == at.length) {
            if (bestSpots == null || together > bestTogether) {
                bestSpots = at.clone();
                bestTogether = together;
            }
            return;
        }
        for (int p = 0; p < s.lights.size(); p++) {
            boolean taken = false;
            for (int i = 0; i < n; i++) {
                taken |= at[i] == p;
            }
            if (!taken) {
                at[n] = p;
                Booth b = s.booths.get(n);
                spots(most, cost, at, n + 1, together + b.takes[p][most ? 1 : 0] - (b.place == p ? 0 : cost));
            }
        }
    }

    int placed(boolean most, int cost, int what) {
        if (!in(cost, 0, 9999) || !in(what, -1, s.booths.size() - 1)) {
            return UNTOLD;
        }
        bestSpots = null;
        spots(most, cost, new int[s.booths.size()], 0, 0);
        return what == -1 ? bestTogether : bestSpots[what];
    }

    int count(int what) {
        switch (what) {
            case 0: return s.now;
            case 1: return s.lights.size();
            case 2: return laws.size();
            case 3: return s.booths.size();
            case 4: return strips().size();
            case 5: return changes();
            case 6: return s.readings.size();
            case 7: return s.claims.size();
            case 8: return tape.length();
            default: return -1;
        }
    }

    int image(int k) {
        if (!in(k, 0, 3)) {
            return -1;
        }
        images[k] = s.copy();
        return s.now;
    }

    int back(int k) {
        if (!in(k, 0, 3) || images[k] == null) {
            return -1;
        }
        s = images[k].copy();
        return s.now;
    }
}
