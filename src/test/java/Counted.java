/** The class with its calls counted: what an object answers behind its 512th is free, so no test leans on it. */
final class Counted {
    static final int CALLS = 512;
    private final FourPoses it = new FourPoses();
    private final int most;
    private int calls = 0;

    Counted() {
        this(CALLS);
    }

    Counted(int most) {
        this.most = most;
    }

    /** How many calls are left to it. */
    int left() {
        return most - calls;
    }

    private FourPoses next() {
        calls++;
        if (calls == most + 1) {
            Check.wrong("a test makes more than " + most + " calls");
        }
        return it;
    }

    int place(int light) {
        return next().place(light);
    }

    int miles(int a, int b, int n) {
        return next().miles(a, b, n);
    }

    int heat(int day, int n) {
        return next().heat(day, n);
    }

    int feed(int a, int b, int c, int d, int e) {
        return next().feed(a, b, c, d, e);
    }

    int end(int n) {
        return next().end(n);
    }

    int law() {
        return next().law();
    }

    int booth(int place, int price, int law) {
        return next().booth(place, price, law);
    }

    int move(int booth, int place) {
        return next().move(booth, place);
    }

    int paper(int booth, int n) {
        return next().paper(booth, n);
    }

    int strip(int booth, int head, int stool) {
        return next().strip(booth, head, stool);
    }

    boolean clock(int day) {
        return next().clock(day);
    }

    int change(int booth, int bath) {
        return next().change(booth, bath);
    }

    int empty(int booth) {
        return next().empty(booth);
    }

    int of(int booth, int what) {
        return next().of(booth, what);
    }

    int spoilt(int booth, int by) {
        return next().spoilt(booth, by);
    }

    int again(int booth, int law, int by) {
        return next().again(booth, law, by);
    }

    int with(int booth, int bath, int day) {
        return next().with(booth, bath, day);
    }

    int finest(int booth, int bath) {
        return next().finest(booth, bath);
    }

    int reading(int booth, int day, int counter, int coins) {
        return next().reading(booth, day, counter, coins);
    }

    int agree(int booth, int known, int what) {
        return next().agree(booth, known, what);
    }

    int claim(int who, int booth, int day) {
        return next().claim(who, booth, day);
    }

    int fair(int claim, int what) {
        return next().fair(claim, what);
    }

    int suspect(int what) {
        return next().suspect(what);
    }

    int refused(int law, int booth) {
        return next().refused(law, booth);
    }

    int newer(int law, int old) {
        return next().newer(law, old);
    }

    int rent(int law, int booth, int from, int to) {
        return next().rent(law, booth, from, to);
    }

    int cheapest(int booth, int from, int to) {
        return next().cheapest(booth, from, to);
    }

    int round(int set, int from, int what) {
        return next().round(set, from, what);
    }

    int call(int booth, int n) {
        return next().call(booth, n);
    }

    int worthy(int from, int coins, int what) {
        return next().worthy(from, coins, what);
    }

    boolean takes(int booth, int place, int least, int most) {
        return next().takes(booth, place, least, most);
    }

    int placed(boolean most, int cost, int what) {
        return next().placed(most, cost, what);
    }

    int count(int what) {
        return next().count(what);
    }

    int image(int k) {
        return next().image(k);
    }

    int back(int k) {
        return next().back(k);
    }
}
