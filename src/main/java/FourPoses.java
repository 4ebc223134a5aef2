import java.util.Arrays;

/** Curtained booths, their baths and laws, and what would have become of their strips. */
public final class FourPoses {
    public static final int NONE = -1;

    private static final int DAYS = 400;
    private static final int PLACES = 12;
    private static final int BOOTHS = 8;
    private static final int BATHS = 3;
    private static final int LAWS = 8;
    private static final int IMAGES = 4;
    private static final int STRIPS = 400;
    private static final int CHANGES = 100;
    private static final int LETTERS = 100;
    private static final int CLAIMANTS = 32;
    private static final int BYTES = 400;
    private static final int FRESH = 1000;
    private static final int MOST = 9999;
    private static final int RENTS = 99999999;
    private static final int UNTOLD = -1000000000;

    private final int[] tape = new int[BYTES];
    private int taped;
    private final Law[] laws = new Law[LAWS];
    private int lawCount;
    private final Reader reader = new Reader();
    private final Facts facts = new Facts();
    private final Replay replay = new Replay();
    private final Rounds rounds = new Rounds();
    private final Crane crane = new Crane();
    private final Town town = new Town();
    private final Town[] images = new Town[IMAGES];

    public FourPoses() {
        for (int i = 0; i < laws.length; i++) {
            laws[i] = new Law();
        }
    }

    public int place(int light) {
        if (town.places >= PLACES || !within(light, 0, 99)) {
            return NONE;
        }
        put(town.lights, town.places, light);
        town.places++;
        return town.places - 1;
    }

    public int miles(int a, int b, int n) {
        if (!town.hasPlace(a) || !town.hasPlace(b) || a == b || !within(n, 0, 999)) {
            return NONE;
        }
        int was = town.between(a, b);
        put(town.roads, a * PLACES + b, n);
        put(town.roads, b * PLACES + a, n);
        return was;
    }

    public int heat(int day, int n) {
        if (!isDay(day) || !within(n, 0, 40)) {
            return NONE;
        }
        int was = get(town.heats, day);
        put(town.heats, day, n);
        return was;
    }

    public int feed(int a, int b, int c, int d, int e) {
        if (taped > BYTES - 20) {
            return NONE;
        }
        append(a);
        append(b);
        append(c);
        append(d);
        append(e);
        return taped;
    }

    public int end(int n) {
        if (!within(n, 0, taped)) {
            return NONE;
        }
        taped = n;
        return n;
    }

    public int law() {
        if (lawCount < 0 || lawCount >= laws.length) {
            return NONE;
        }
        Law law = laws[lawCount];
        if (law == null) {
            return NONE;
        }
        int fault = reader.read(tape, taped, law);
        taped = 0;
        if (fault > 0) {
            return -2 - fault;
        }
        lawCount++;
        return lawCount - 1;
    }

    public int booth(int place, int price, int law) {
        Booth next = town.slot(town.booths);
        if (next == null || !town.isFree(place) || !within(price, 1, 999) || lawAt(law) == null) {
            return NONE;
        }
        next.begin(place, price, law, town.now);
        town.booths++;
        return town.booths - 1;
    }

    public int move(int booth, int place) {
        Booth one = town.boothAt(booth);
        if (one == null || !town.isFree(place)) {
            return NONE;
        }
        int was = one.spot;
        one.spot = place;
        return was;
    }

    public int paper(int booth, int n) {
        Booth one = town.boothAt(booth);
        if (one == null || !within(n, 1, MOST) || one.sheets + n > MOST) {
            return NONE;
        }
        one.sheets += n;
        return one.sheets;
    }

    public int strip(int booth, int head, int stool) {
        Booth one = town.boothAt(booth);
        if (one == null || one.sheets < 1 || town.diary.strips >= STRIPS) {
            return NONE;
        }
        Law law = lawAt(one.rule);
        if (law == null || !within(head, 1, 99) || !within(stool, 0, 20)) {
            return NONE;
        }
        facts.open(town, one, town.now);
        facts.pose(head, stool);
        facts.till(one.counter, one.box);
        int by = law.spoiler(one.strengths, facts);
        law.wear(Token.TIRE, one.strengths, facts);
        town.diary.addStrip(booth, town.now, by);
        town.diary.tellStrip(head, stool, one.counter, one.box);
        one.sheets--;
        one.box += one.price;
        one.counter++;
        return by;
    }

    public boolean clock(int day) {
        if (!within(day, town.now, DAYS - 1)) {
            return false;
        }
        for (int ends = town.now; ends < day; ends++) {
            ageAll(ends);
        }
        town.now = day;
        return true;
    }

    public int change(int booth, int bath) {
        Booth one = town.boothAt(booth);
        if (one == null || !isBath(bath) || town.diary.changes >= CHANGES) {
            return NONE;
        }
        int was = get(one.strengths, bath);
        put(one.strengths, bath, FRESH);
        if (bath == BATHS - 1) {
            one.silver += FRESH - was;
        }
        town.diary.addChange(booth, town.now, bath);
        return was;
    }

    public int empty(int booth) {
        Booth one = town.boothAt(booth);
        if (one == null) {
            return NONE;
        }
        int coins = one.box;
        // An empty box emptied changes nothing; kept out, such calls can't fill the diary.
        if (coins > 0) {
            town.diary.addEmptying(booth, town.now);
        }
        one.box = 0;
        return coins;
    }

    public int of(int booth, int what) {
        Booth one = town.boothAt(booth);
        if (one == null) {
            return NONE;
        }
        switch (what) {
            case 0:
            case 1:
            case 2:
                return get(one.strengths, what);
            case 3:
                return one.sheets;
            case 4:
                return one.box;
            case 5:
                return one.counter;
            case 6:
                return one.spot;
            case 7:
                return one.silver;
            default:
                return NONE;
        }
    }

    public int spoilt(int booth, int by) {
        if (!town.isBoothOrAll(booth) || !isSpoiler(by)) {
            return NONE;
        }
        Diary diary = town.diary;
        int n = 0;
        for (int s = 0; s < diary.strips; s++) {
            if (diary.isOf(s, booth) && get(diary.stripBy, s) == by) {
                n++;
            }
        }
        return n;
    }

    public int again(int booth, int law, int by) {
        Law other = lawAt(law);
        if (town.boothAt(booth) == null || other == null || !isSpoiler(by)) {
            return NONE;
        }
        replay.runAll(town, booth, other, facts);
        return replay.tally(town.diary, booth, by);
    }

    public int with(int booth, int bath, int day) {
        Booth one = town.boothAt(booth);
        if (one == null || !isBath(bath) || !within(day, one.came, town.now)) {
            return NONE;
        }
        Law law = lawAt(one.rule);
        if (law == null) {
            return NONE;
        }
        replay.runAll(town, booth, law, facts);
        replay.runBath(town, booth, law, bath, day, facts);
        return replay.tallySpoilt(town.diary, booth);
    }

    public int finest(int booth, int bath) {
        Booth one = town.boothAt(booth);
        if (one == null || !isBath(bath)) {
            return NONE;
        }
        Law law = lawAt(one.rule);
        if (law == null) {
            return NONE;
        }
        replay.runAll(town, booth, law, facts);
        int best = NONE;
        int fewest = STRIPS + 1;
        // From the last day to the first: what a later day's change marked anew is marked
        // once more by the earlier day's, and what came ahead of it is still unmarked.
        for (int day = town.now; day >= one.came; day--) {
            replay.runBath(town, booth, law, bath, day, facts);
            int n = replay.tallySpoilt(town.diary, booth);
            if (n <= fewest) {
                fewest = n;
                best = day;
            }
        }
        return best;
    }

    public int reading(int booth, int day, int counter, int coins) {
        Post post = town.post;
        if (town.boothAt(booth) == null || !within(day, 0, town.now) || post.readings >= LETTERS) {
            return NONE;
        }
        if (!within(counter, 0, 99999) || !within(coins, 0, 99999999)) {
            return NONE;
        }
        post.addReading(booth, day, counter, coins, town.now);
        return post.readings;
    }

    public int agree(int booth, int known, int what) {
        Booth one = town.boothAt(booth);
        if (one == null || !isDay(known) || !within(what, 0, 1)) {
            return 2 * UNTOLD;
        }
        Post post = town.post;
        int late = post.latestReading(booth, known, DAYS);
        if (late == NONE) {
            return UNTOLD;
        }
        int lateDay = get(post.readingDay, late);
        int early = post.latestReading(booth, known, lateDay);
        if (early == NONE) {
            return UNTOLD;
        }
        int strips = town.diary.stripsIn(booth, get(post.readingDay, early) + 1, lateDay);
        if (what == 0) {
            return get(post.readingCounter, late) - get(post.readingCounter, early) - strips;
        }
        return get(post.readingCoins, late) - get(post.readingCoins, early) - one.price * strips;
    }

    public int claim(int who, int booth, int day) {
        Post post = town.post;
        if (town.boothAt(booth) == null || !within(day, 0, town.now) || post.claims >= LETTERS) {
            return NONE;
        }
        if (!within(who, 0, CLAIMANTS - 1)) {
            return NONE;
        }
        post.addClaim(who, booth, day);
        return post.claims - 1;
    }

    public int fair(int claim, int what) {
        if (!within(claim, 0, town.post.claims - 1) || !within(what, 0, 1)) {
            return NONE;
        }
        if (missing(claim) < 0) {
            return 1;
        }
        return what == 1 && isRefunded(claim) ? 1 : 0;
    }

    public int suspect(int what) {
        if (!within(what, 0, 2)) {
            return NONE;
        }
        if (what == 2) {
            return twice();
        }
        int who = -2;
        int most = 0;
        for (int one = 0; one < CLAIMANTS; one++) {
            int n = unfairOf(one);
            if (n > most) {
                most = n;
                who = one;
            }
        }
        return what == 0 ? who : most;
    }

    public int refused(int law, int booth) {
        Law office = lawAt(law);
        if (office == null || !town.isBoothOrAll(booth)) {
            return NONE;
        }
        int n = 0;
        for (int s = 0; s < town.diary.strips; s++) {
            if (town.diary.isOf(s, booth) && isRefused(office, s)) {
                n++;
            }
        }
        return n;
    }

    public int newer(int law, int old) {
        Law one = lawAt(law);
        Law other = lawAt(old);
        if (one == null || other == null) {
            return UNTOLD;
        }
        int coins = 0;
        for (int s = 0; s < town.diary.strips; s++) {
            Booth booth = town.boothAt(get(town.diary.stripBooth, s));
            if (booth == null) {
                continue;
            }
            coins += isRefused(one, s) ? booth.price : 0;
            coins -= isRefused(other, s) ? booth.price : 0;
        }
        return coins;
    }

    public int rent(int law, int booth, int from, int to) {
        Law one = lawAt(law);
        if (one == null || town.boothAt(booth) == null || !isSpan(from, to)) {
            return UNTOLD;
        }
        return rentBy(one, booth, from, to);
    }

    public int cheapest(int booth, int from, int to) {
        if (town.boothAt(booth) == null || !isSpan(from, to)) {
            return NONE;
        }
        int best = NONE;
        int least = RENTS + 1;
        for (int i = 0; i < lawCount; i++) {
            Law law = lawAt(i);
            int n = law == null ? least : rentBy(law, booth, from, to);
            if (n < least) {
                least = n;
                best = i;
            }
        }
        return best;
    }

    public int round(int set, int from, int what) {
        boolean sets = within(set, 0, (1 << town.booths) - 1);
        if (!sets || !town.hasPlace(from) || !within(what, NONE, BOOTHS - 1)) {
            return -2;
        }
        rounds.plan(town, from);
        return what == NONE ? rounds.leastFrom(town, from, set) : rounds.stop(town, from, set, what);
    }

    public int call(int booth, int n) {
        Booth one = town.boothAt(booth);
        if (one == null || !within(n, 0, MOST)) {
            return NONE;
        }
        int was = one.worth;
        one.worth = n;
        return was;
    }

    public int worthy(int from, int coins, int what) {
        if (!town.hasPlace(from) || !within(coins, 0, 99) || !within(what, 0, 1)) {
            return NONE;
        }
        rounds.plan(town, from);
        int best = 0;
        int most = 0;
        for (int set = 1; set < 1 << town.booths; set++) {
            int n = town.worthOf(set) - coins * rounds.leastFrom(town, from, set);
            if (n > most) {
                most = n;
                best = set;
            }
        }
        return what == 0 ? best : most;
    }

    public boolean takes(int booth, int place, int least, int most) {
        Booth one = town.boothAt(booth);
        if (one == null || !town.hasPlace(place) || !within(least, 0, MOST) || !within(most, least, MOST)) {
            return false;
        }
        put(one.least, place, least);
        put(one.most, place, most);
        return true;
    }

    public int placed(boolean most, int cost, int what) {
        if (!within(cost, 0, MOST) || !within(what, NONE, town.booths - 1)) {
            return UNTOLD;
        }
        crane.plan(town, most, cost);
        return what == NONE ? crane.together() : crane.spotOf(town, what);
    }

    public int count(int what) {
        switch (what) {
            case 0:
                return town.now;
            case 1:
                return town.places;
            case 2:
                return lawCount;
            case 3:
                return town.booths;
            case 4:
                return town.diary.strips;
            case 5:
                return town.diary.changes;
            case 6:
                return town.post.readings;
            case 7:
                return town.post.claims;
            case 8:
                return taped;
            default:
                return NONE;
        }
    }

    public int image(int k) {
        if (k < 0 || k >= images.length) {
            return NONE;
        }
        Town kept = images[k];
        if (kept == null) {
            kept = new Town();
            images[k] = kept;
        }
        kept.become(town);
        return town.now;
    }

    public int back(int k) {
        if (k < 0 || k >= images.length) {
            return NONE;
        }
        Town kept = images[k];
        if (kept == null) {
            return NONE;
        }
        town.become(kept);
        return town.now;
    }

    private static boolean within(int n, int low, int high) {
        return n >= low && n <= high;
    }

    private static boolean isDay(int day) {
        return within(day, 0, DAYS - 1);
    }

    private static boolean isSpan(int from, int to) {
        return isDay(from) && isDay(to) && from <= to;
    }

    private static boolean isBath(int bath) {
        return within(bath, 0, BATHS - 1);
    }

    private static boolean isSpoiler(int by) {
        return within(by, 0, BATHS + 2);
    }

    private static int get(int[] row, int i) {
        return i >= 0 && i < row.length ? row[i] : 0;
    }

    private static void put(int[] row, int i, int n) {
        if (i >= 0 && i < row.length) {
            row[i] = n;
        }
    }

    private static void copy(int[] from, int[] to) {
        System.arraycopy(from, 0, to, 0, Math.min(from.length, to.length));
    }

    private static long held(long n, long low, long high) {
        return Math.max(low, Math.min(high, n));
    }

    private void append(int four) {
        for (int shift = 24; shift >= 0; shift -= 8) {
            put(tape, taped, four >> shift & 255);
            taped++;
        }
    }

    private Law lawAt(int i) {
        return i >= 0 && i < lawCount && i < laws.length ? laws[i] : null;
    }

    private void ageAll(int day) {
        for (int i = 0; i < town.booths; i++) {
            Booth one = town.boothAt(i);
            Law law = one == null ? null : lawAt(one.rule);
            if (law != null) {
                facts.open(town, one, day);
                facts.till(one.counter, one.box);
                law.wear(Token.AGE, one.strengths, facts);
            }
        }
    }

    /** How many spoilt strips fall short for a claim; below 0 there is one left for it. */
    private int missing(int claim) {
        Post post = town.post;
        int spoilt = town.diary.spoiltOn(get(post.claimBooth, claim), get(post.claimDay, claim));
        return post.claimsAhead(claim) - spoilt;
    }

    private boolean isRefunded(int claim) {
        Post post = town.post;
        int number = get(post.claimBooth, claim);
        int day = get(post.claimDay, claim);
        Booth one = town.boothAt(number);
        Law law = one == null ? null : lawAt(one.rule);
        if (law == null) {
            return false;
        }
        facts.open(town, one, day);
        facts.till(town.diary.stripsIn(number, day, day), post.claimsUpTo(claim));
        return law.holds(Token.REFUND, facts);
    }

    private int unfairOf(int who) {
        int n = 0;
        for (int c = 0; c < town.post.claims; c++) {
            if (get(town.post.claimWho, c) == who && missing(c) >= 0) {
                n++;
            }
        }
        return n;
    }

    /** The first claim of a booth and day that isn't fair misses none; all behind it count. */
    private int twice() {
        int n = 0;
        for (int c = 0; c < town.post.claims; c++) {
            if (missing(c) > 0) {
                n++;
            }
        }
        return n;
    }

    private boolean isRefused(Law law, int strip) {
        Diary diary = town.diary;
        Booth one = town.boothAt(get(diary.stripBooth, strip));
        if (one == null || get(diary.stripBy, strip) != 0) {
            return false;
        }
        facts.open(town, one, get(diary.stripDay, strip));
        facts.pose(get(diary.stripHead, strip), get(diary.stripStool, strip));
        return law.holds(Token.REFUSE, facts);
    }

    private int rentBy(Law law, int booth, int from, int to) {
        Booth one = town.boothAt(booth);
        if (one == null) {
            return 0;
        }
        int strips = town.diary.stripsIn(booth, from, to);
        facts.open(town, one, to);
        facts.till(strips, one.price * strips);
        return (int) held(law.total(Token.RENT, 0, facts), -RENTS, RENTS);
    }

    /** All that an image keeps. */
    private static final class Town {
        int now;
        int places;
        int booths;
        final int[] heats = new int[DAYS];
        final int[] lights = new int[PLACES];
        final int[] roads = new int[PLACES * PLACES];
        final Booth[] row = new Booth[BOOTHS];
        final Diary diary = new Diary();
        final Post post = new Post();

        Town() {
            Arrays.fill(heats, 15);
            for (int i = 0; i < row.length; i++) {
                row[i] = new Booth();
            }
        }

        void become(Town other) {
            now = other.now;
            places = other.places;
            booths = other.booths;
            copy(other.heats, heats);
            copy(other.lights, lights);
            copy(other.roads, roads);
            diary.become(other.diary);
            post.become(other.post);
            for (int i = 0; i < row.length; i++) {
                Booth mine = slot(i);
                Booth theirs = other.slot(i);
                if (mine != null && theirs != null) {
                    mine.become(theirs);
                }
            }
        }

        boolean hasPlace(int i) {
            return i >= 0 && i < places;
        }

        boolean isFree(int i) {
            for (int b = 0; b < booths; b++) {
                Booth one = slot(b);
                if (one != null && one.spot == i) {
                    return false;
                }
            }
            return hasPlace(i);
        }

        int between(int a, int b) {
            return get(roads, a * PLACES + b);
        }

        Booth slot(int i) {
            return i >= 0 && i < row.length ? row[i] : null;
        }

        Booth boothAt(int i) {
            return i < booths ? slot(i) : null;
        }

        boolean isBoothOrAll(int i) {
            return i == NONE || boothAt(i) != null;
        }

        int spotOf(int i) {
            Booth one = slot(i);
            return one == null ? 0 : one.spot;
        }

        int worthOf(int set) {
            int n = 0;
            for (int i = 0; i < booths; i++) {
                Booth one = slot(i);
                if (one != null && (set >> i & 1) == 1) {
                    n += one.worth;
                }
            }
            return n;
        }
    }

    private static final class Booth {
        int spot;
        int price;
        int rule;
        int came;
        int sheets;
        int box;
        int counter;
        int silver;
        int worth;
        final int[] strengths = new int[BATHS];
        final int[] least = new int[PLACES];
        final int[] most = new int[PLACES];

        void begin(int place, int coins, int law, int day) {
            spot = place;
            price = coins;
            rule = law;
            came = day;
            sheets = 0;
            box = 0;
            counter = 0;
            silver = 0;
            worth = 0;
            Arrays.fill(strengths, FRESH);
            Arrays.fill(least, 0);
            Arrays.fill(most, 0);
        }

        void become(Booth other) {
            spot = other.spot;
            price = other.price;
            rule = other.rule;
            came = other.came;
            sheets = other.sheets;
            box = other.box;
            counter = other.counter;
            silver = other.silver;
            worth = other.worth;
            copy(other.strengths, strengths);
            copy(other.least, least);
            copy(other.most, most);
        }
    }

    /** The strips, and in their order all that befell the booths: strips, changes, emptyings. */
    private static final class Diary {
        static final int CHANGED = -1;
        static final int EMPTIED = CHANGED - BATHS;
        // A box must have had a strip to be emptied with effect: no more emptyings than strips.
        static final int EVENTS = STRIPS + CHANGES + STRIPS;

        int strips;
        int changes;
        int events;
        final int[] stripBooth = new int[STRIPS];
        final int[] stripDay = new int[STRIPS];
        final int[] stripBy = new int[STRIPS];
        final int[] stripHead = new int[STRIPS];
        final int[] stripStool = new int[STRIPS];
        final int[] stripCounter = new int[STRIPS];
        final int[] stripBox = new int[STRIPS];
        final int[] eventBooth = new int[EVENTS];
        final int[] eventDay = new int[EVENTS];
        /** A strip's number, CHANGED less the bath, or EMPTIED. */
        final int[] eventWhat = new int[EVENTS];

        void become(Diary other) {
            strips = other.strips;
            changes = other.changes;
            events = other.events;
            copy(other.stripBooth, stripBooth);
            copy(other.stripDay, stripDay);
            copy(other.stripBy, stripBy);
            copy(other.stripHead, stripHead);
            copy(other.stripStool, stripStool);
            copy(other.stripCounter, stripCounter);
            copy(other.stripBox, stripBox);
            copy(other.eventBooth, eventBooth);
            copy(other.eventDay, eventDay);
            copy(other.eventWhat, eventWhat);
        }

        void addStrip(int booth, int day, int by) {
            put(stripBooth, strips, booth);
            put(stripDay, strips, day);
            put(stripBy, strips, by);
            addEvent(booth, day, strips);
            strips++;
        }

        /** Of the strip that was added last. */
        void tellStrip(int head, int stool, int counter, int box) {
            put(stripHead, strips - 1, head);
            put(stripStool, strips - 1, stool);
            put(stripCounter, strips - 1, counter);
            put(stripBox, strips - 1, box);
        }

        void addChange(int booth, int day, int bath) {
            addEvent(booth, day, CHANGED - bath);
            changes++;
        }

        void addEmptying(int booth, int day) {
            addEvent(booth, day, EMPTIED);
        }

        private void addEvent(int booth, int day, int what) {
            if (events < EVENTS) {
                put(eventBooth, events, booth);
                put(eventDay, events, day);
                put(eventWhat, events, what);
                events++;
            }
        }

        boolean isOf(int strip, int booth) {
            return booth == NONE || get(stripBooth, strip) == booth;
        }

        int stripsIn(int booth, int from, int to) {
            int n = 0;
            for (int s = 0; s < strips; s++) {
                if (isOf(s, booth) && within(get(stripDay, s), from, to)) {
                    n++;
                }
            }
            return n;
        }

        int spoiltOn(int booth, int day) {
            int n = 0;
            for (int s = 0; s < strips; s++) {
                if (isOf(s, booth) && get(stripDay, s) == day && get(stripBy, s) != 0) {
                    n++;
                }
            }
            return n;
        }
    }

    /** The readings and the claims. */
    private static final class Post {
        int readings;
        int claims;
        final int[] readingBooth = new int[LETTERS];
        final int[] readingDay = new int[LETTERS];
        final int[] readingCounter = new int[LETTERS];
        final int[] readingCoins = new int[LETTERS];
        final int[] readingKnown = new int[LETTERS];
        final int[] claimWho = new int[LETTERS];
        final int[] claimBooth = new int[LETTERS];
        final int[] claimDay = new int[LETTERS];

        void become(Post other) {
            readings = other.readings;
            claims = other.claims;
            copy(other.readingBooth, readingBooth);
            copy(other.readingDay, readingDay);
            copy(other.readingCounter, readingCounter);
            copy(other.readingCoins, readingCoins);
            copy(other.readingKnown, readingKnown);
            copy(other.claimWho, claimWho);
            copy(other.claimBooth, claimBooth);
            copy(other.claimDay, claimDay);
        }

        void addReading(int booth, int day, int counter, int coins, int known) {
            put(readingBooth, readings, booth);
            put(readingDay, readings, day);
            put(readingCounter, readings, counter);
            put(readingCoins, readings, coins);
            put(readingKnown, readings, known);
            readings++;
        }

        void addClaim(int who, int booth, int day) {
            put(claimWho, claims, who);
            put(claimBooth, claims, booth);
            put(claimDay, claims, day);
            claims++;
        }

        /** Of those known by then the one of the latest day ahead of a day; told last, of several. */
        int latestReading(int booth, int known, int ahead) {
            int best = NONE;
            int latest = 0;
            for (int r = 0; r < readings; r++) {
                int day = get(readingDay, r);
                boolean fits = get(readingBooth, r) == booth && get(readingKnown, r) <= known && day < ahead;
                if (fits && day >= latest) {
                    latest = day;
                    best = r;
                }
            }
            return best;
        }

        int claimsAhead(int claim) {
            int n = 0;
            for (int c = 0; c < claim; c++) {
                boolean sameBooth = get(claimBooth, c) == get(claimBooth, claim);
                if (sameBooth && get(claimDay, c) == get(claimDay, claim)) {
                    n++;
                }
            }
            return n;
        }

        int claimsUpTo(int claim) {
            int n = 0;
            for (int c = 0; c <= claim; c++) {
                if (get(claimWho, c) == get(claimWho, claim)) {
                    n++;
                }
            }
            return n;
        }
    }

    /** The numbers of words and signs in a law's text; the words are in the order of WORDS. */
    private static final class Token {
        static final String WORDS =
            "head stool light heat day strength strips box place tire age weak dark off refuse refund rent if or and not ";
        static final int HEAD = 0;
        static final int STOOL = 1;
        static final int LIGHT = 2;
        static final int HEAT = 3;
        static final int DAY = 4;
        static final int STRENGTH = 5;
        static final int STRIPS_WORD = 6;
        static final int BOX = 7;
        static final int PLACE = 8;
        static final int TIRE = 9;
        static final int AGE = 10;
        static final int WEAK = 11;
        static final int DARK = 12;
        static final int OFF = 13;
        static final int REFUSE = 14;
        static final int REFUND = 15;
        static final int RENT = 16;
        static final int IF = 17;
        static final int OR = 18;
        static final int AND = 19;
        static final int NOT = 20;
        static final int NUMBER = 21;
        static final int PLUS = 22;
        static final int MINUS = 23;
        static final int TIMES = 24;
        static final int OVER = 25;
        static final int LESS = 26;
        static final int AT_MOST = 27;
        static final int SAME = 28;
        static final int AT_LEAST = 29;
        static final int MORE = 30;
        static final int OPEN = 31;
        static final int SHUT = 32;
        static final int NEXT = 33;
        static final int END = 34;
        static final int BAD = 35;
    }

    /** What the words of a law mean where it is asked, and the stack on which it is reckoned. */
    private static final class Facts {
        final long[] words = new long[Token.PLACE + 1];
        final long[] stack = new long[Reader.MANY];

        void tell(int word, long n) {
            if (word >= 0 && word < words.length) {
                words[word] = n;
            }
        }

        long meaning(int word) {
            return word >= 0 && word < words.length ? words[word] : 0;
        }

        /** All words anew: those of the booth and the day, 0 for the others. */
        void open(Town town, Booth booth, int day) {
            Arrays.fill(words, 0);
            tell(Token.PLACE, booth.spot);
            tell(Token.LIGHT, get(town.lights, booth.spot));
            tell(Token.DAY, day);
            tell(Token.HEAT, get(town.heats, day));
        }

        void pose(int head, int stool) {
            tell(Token.HEAD, head);
            tell(Token.STOOL, stool);
        }

        void till(int strips, int box) {
            tell(Token.STRIPS_WORD, strips);
            tell(Token.BOX, box);
        }

        int push(int top, long n) {
            if (top < 0 || top >= stack.length) {
                return top;
            }
            stack[top] = n;
            return top + 1;
        }

        void flip(int top) {
            if (top >= 1 && top <= stack.length) {
                stack[top - 1] = 1 - stack[top - 1];
            }
        }

        /** The two topmost joined by a sign, or by and, or. */
        int join(int top, int sign) {
            if (top < 2 || top > stack.length) {
                return top;
            }
            long a = stack[top - 2];
            long b = stack[top - 1];
            long c = 0;
            switch (sign) {
                case Token.PLUS:
                    c = a + b;
                    break;
                case Token.MINUS:
                    c = a - b;
                    break;
                case Token.TIMES:
                    c = a * b;
                    break;
                case Token.OVER:
                    c = b == 0 ? 0 : a / b;
                    break;
                case Token.LESS:
                    c = a < b ? 1 : 0;
                    break;
                case Token.AT_MOST:
                    c = a <= b ? 1 : 0;
                    break;
                case Token.SAME:
                    c = a == b ? 1 : 0;
                    break;
                case Token.AT_LEAST:
                    c = a >= b ? 1 : 0;
                    break;
                case Token.MORE:
                    c = a > b ? 1 : 0;
                    break;
                case Token.AND:
                    c = a & b;
                    break;
                case Token.OR:
                    c = a | b;
                    break;
                default:
                    break;
            }
            stack[top - 2] = c;
            return top - 1;
        }

        long result(int top) {
            return top >= 1 && top <= stack.length ? stack[top - 1] : 0;
        }
    }

    /** A law as it was read: its clauses, each with stretches of one row of code. */
    private static final class Law {
        static final int CLAUSES = 14;

        int clauses;
        int length;
        final int[] sorts = new int[CLAUSES];
        final int[] baths = new int[CLAUSES];
        final int[] starts = new int[CLAUSES];
        final int[] tests = new int[CLAUSES];
        final int[] ends = new int[CLAUSES];
        final int[] weaks = new int[BATHS];
        /** In the order of reckoning: a number as it is, another token as -1 less the token. */
        final int[] code = new int[BYTES];

        void clear() {
            clauses = 0;
            length = 0;
            Arrays.fill(weaks, NONE);
        }

        void beginClause(int sort) {
            put(sorts, clauses, sort);
            put(baths, clauses, 0);
            put(starts, clauses, length);
            put(tests, clauses, length);
            put(ends, clauses, length);
        }

        void endSum() {
            put(tests, clauses, length);
        }

        void endClause() {
            put(ends, clauses, length);
            clauses++;
        }

        void emit(int op) {
            if (length >= 0 && length < code.length) {
                code[length] = op;
                length++;
            }
        }

        /** By what a strip is spoilt, 0 if it is good. */
        int spoiler(int[] strengths, Facts facts) {
            for (int bath = 0; bath < BATHS; bath++) {
                if (isWeak(bath, get(strengths, bath))) {
                    return bath + 1;
                }
            }
            return spoilerBesideBaths(facts);
        }

        boolean isWeak(int bath, int strength) {
            return strength < get(weaks, bath);
        }

        int spoilerBesideBaths(Facts facts) {
            if (holds(Token.DARK, facts)) {
                return BATHS + 1;
            }
            return holds(Token.OFF, facts) ? BATHS + 2 : 0;
        }

        void wear(int sort, int[] strengths, Facts facts) {
            for (int bath = 0; bath < BATHS; bath++) {
                put(strengths, bath, worn(sort, bath, get(strengths, bath), facts));
            }
        }

        /** What is left of a bath's strength after its tire or age. */
        int worn(int sort, int bath, int strength, Facts facts) {
            facts.tell(Token.STRENGTH, strength);
            int less = (int) held(total(sort, bath, facts), 0, FRESH);
            facts.tell(Token.STRENGTH, 0);
            return Math.max(0, strength - less);
        }

        long total(int sort, int bath, Facts facts) {
            for (int c = 0; c < clauses; c++) {
                if (get(sorts, c) != sort || get(baths, c) != bath) {
                    continue;
                }
                int test = get(tests, c);
                if (test == get(ends, c) || run(test, get(ends, c), facts) != 0) {
                    return run(get(starts, c), test, facts);
                }
            }
            return 0;
        }

        boolean holds(int sort, Facts facts) {
            for (int c = 0; c < clauses; c++) {
                if (get(sorts, c) == sort && run(get(tests, c), get(ends, c), facts) != 0) {
                    return true;
                }
            }
            return false;
        }

        private long run(int from, int to, Facts facts) {
            int top = 0;
            for (int i = from; i < to; i++) {
                int op = get(code, i);
                int token = -1 - op;
                if (op >= 0) {
                    top = facts.push(top, op);
                } else if (token <= Token.PLACE) {
                    top = facts.push(top, facts.meaning(token));
                } else if (token == Token.NOT) {
                    facts.flip(top);
                } else {
                    top = facts.join(top, token);
                }
            }
            return facts.result(top);
        }
    }

    /** Reads a law's text up to its first fault. */
    private static final class Reader {
        static final int MANY = 60;
        static final int DEEP = 10;
        static final int TOKENS = BYTES + 1;

        private final int[] kinds = new int[TOKENS];
        private final int[] spots = new int[TOKENS];
        /** Of a number; NONE if it has too many digits. */
        private final int[] values = new int[TOKENS];
        private int tokens;
        private int at;
        private int kind;
        private int used;
        private int fault;
        private Law law = new Law();

        /** The text's fault; 0: none. */
        int read(int[] text, int length, Law into) {
            scan(text, length);
            law = into;
            law.clear();
            used = 0;
            fault = 0;
            at = NONE;
            step();
            for (int n = 0; n <= Law.CLAUSES; n++) {
                readClause(n);
                if (kind != Token.NEXT) {
                    break;
                }
                step();
            }
            if (kind != Token.END) {
                fail(0);
            }
            return fault;
        }

        private void scan(int[] text, int length) {
            tokens = 0;
            int width = 1;
            for (int i = 0; i < length; i += Math.max(1, width)) {
                int sign = get(text, i);
                width = 1;
                if (isDigit(sign)) {
                    width = runOf(text, i, length, '0', '9');
                    addToken(Token.NUMBER, i, numberIn(text, i, width));
                } else if (isLetter(sign)) {
                    width = runOf(text, i, length, 'a', 'z');
                    addToken(wordIn(text, i, width), i, 0);
                } else if ((sign == '<' || sign == '>') && i + 1 < length && get(text, i + 1) == '=') {
                    width = 2;
                    addToken(sign == '<' ? Token.AT_MOST : Token.AT_LEAST, i, 0);
                } else if (sign != ' ') {
                    addToken(signToken(sign), i, 0);
                }
            }
            addToken(Token.END, length, 0);
        }

        private void addToken(int token, int spot, int value) {
            put(kinds, tokens, token);
            put(spots, tokens, spot);
            put(values, tokens, value);
            tokens++;
        }

        private static boolean isDigit(int sign) {
            return within(sign, '0', '9');
        }

        private static boolean isLetter(int sign) {
            return within(sign, 'a', 'z');
        }

        /** How many bytes from a place on lie within these, at least 1. */
        private static int runOf(int[] text, int from, int length, int low, int high) {
            int to = from + 1;
            while (to < length && within(get(text, to), low, high)) {
                to++;
            }
            return to - from;
        }

        private static int numberIn(int[] text, int from, int width) {
            if (width > 5) {
                return NONE;
            }
            int n = 0;
            for (int i = 0; i < width; i++) {
                n = n * 10 + get(text, from + i) - '0';
            }
            return n;
        }

        private static int wordIn(int[] text, int from, int width) {
            int number = 0;
            int start = 0;
            for (int i = 0; i < Token.WORDS.length(); i++) {
                if (Token.WORDS.charAt(i) != ' ') {
                    continue;
                }
                if (i - start == width && isWordAt(text, from, start, width)) {
                    return number;
                }
                number++;
                start = i + 1;
            }
            return Token.BAD;
        }

        private static boolean isWordAt(int[] text, int from, int start, int width) {
            for (int i = 0; i < width; i++) {
                int k = start + i;
                if (k < 0 || k >= Token.WORDS.length() || Token.WORDS.charAt(k) != get(text, from + i)) {
                    return false;
                }
            }
            return true;
        }

        private static int signToken(int sign) {
            switch (sign) {
                case '+':
                    return Token.PLUS;
                case '-':
                    return Token.MINUS;
                case '*':
                    return Token.TIMES;
                case '/':
                    return Token.OVER;
                case '<':
                    return Token.LESS;
                case '=':
                    return Token.SAME;
                case '>':
                    return Token.MORE;
                case '[':
                    return Token.OPEN;
                case ']':
                    return Token.SHUT;
                case ';':
                    return Token.NEXT;
                default:
                    return Token.BAD;
            }
        }

        /** On to the next token; behind a fault all is BAD, so that nothing more is read. */
        private void step() {
            at++;
            boolean there = fault == 0 && at >= 0 && at < tokens && at < kinds.length;
            kind = there ? kinds[at] : Token.BAD;
        }

        private void fail(int why) {
            if (fault == 0) {
                int spot = at >= 0 && at < spots.length ? spots[at] : 0;
                fault = 1 + 8 * spot + why;
            }
            kind = Token.BAD;
        }

        private void readClause(int n) {
            int sort = kind;
            if (!within(sort, Token.TIRE, Token.RENT)) {
                fail(0);
                return;
            }
            if (n >= Law.CLAUSES) {
                fail(4);
                return;
            }
            step();
            law.beginClause(sort);
            if (sort <= Token.WEAK) {
                readBath(sort);
            }
            if (sort == Token.WEAK) {
                readWeak();
            } else if (sort == Token.TIRE || sort == Token.AGE || sort == Token.RENT) {
                readSum();
                law.endSum();
                if (kind == Token.IF) {
                    step();
                    readTest(0);
                }
            } else {
                readTest(0);
            }
            law.endClause();
        }

        private void readBath(int sort) {
            int bath = numberHere(BATHS - 1);
            if (sort == Token.WEAK && get(law.weaks, bath) != NONE) {
                fail(4);
            }
            put(law.baths, law.clauses, bath);
            step();
        }

        private void readWeak() {
            put(law.weaks, get(law.baths, law.clauses), numberHere(999));
            step();
        }

        private int numberHere(int high) {
            if (kind != Token.NUMBER) {
                fail(0);
                return 0;
            }
            int n = get(values, at);
            if (!within(n, 0, high)) {
                fail(1);
                return 0;
            }
            return n;
        }

        private void readTest(int depth) {
            for (int parts = 0; parts <= BYTES; parts++) {
                readFact(depth);
                for (int n = 0; n < BYTES && kind == Token.AND; n++) {
                    step();
                    readFact(depth);
                    law.emit(-1 - Token.AND);
                }
                if (parts > 0) {
                    law.emit(-1 - Token.OR);
                }
                if (kind != Token.OR) {
                    return;
                }
                step();
            }
        }

        private void readFact(int depth) {
            int first = kind;
            boolean deeper = first == Token.NOT || first == Token.OPEN;
            if (deeper && depth >= DEEP) {
                fail(2);
                return;
            }
            if (first == Token.NOT) {
                step();
                readFact(depth + 1);
                law.emit(-1 - Token.NOT);
            } else if (first == Token.OPEN) {
                step();
                readTest(depth + 1);
                if (kind != Token.SHUT) {
                    fail(0);
                }
                step();
            } else {
                readSum();
                int sign = kind;
                if (sign < Token.LESS || sign > Token.MORE) {
                    fail(0);
                }
                if (used >= MANY) {
                    fail(3);
                }
                used++;
                step();
                readSum();
                law.emit(-1 - sign);
            }
        }

        private void readSum() {
            int adding = Token.BAD;
            for (int terms = 0; terms <= BYTES; terms++) {
                readValue();
                for (int n = 0; n < BYTES && (kind == Token.TIMES || kind == Token.OVER); n++) {
                    int sign = kind;
                    step();
                    readValue();
                    law.emit(-1 - sign);
                }
                if (terms > 0) {
                    law.emit(-1 - adding);
                }
                adding = kind;
                if (adding != Token.PLUS && adding != Token.MINUS) {
                    return;
                }
                step();
            }
        }

        private void readValue() {
            int op = -1 - kind;
            if (kind == Token.NUMBER) {
                op = at >= 0 && at < values.length ? values[at] : NONE;
                if (op < 0) {
                    fail(1);
                }
            } else if (kind < Token.HEAD || kind > Token.PLACE) {
                fail(0);
            }
            if (used >= MANY) {
                fail(3);
            }
            used++;
            law.emit(op);
            step();
        }
    }

    /** What would have become of a booth's strips by a law, or with a change more. */
    private static final class Replay {
        /** Of each strip a bit for each bath that would be too weak for it. */
        private final int[] weakBaths = new int[STRIPS];
        /** Of each strip what else would spoil it. */
        private final int[] besides = new int[STRIPS];

        void runAll(Town town, int number, Law law, Facts facts) {
            Booth booth = town.boothAt(number);
            if (booth == null) {
                return;
            }
            Diary diary = town.diary;
            for (int s = 0; s < diary.strips; s++) {
                if (diary.isOf(s, number)) {
                    openStrip(town, booth, s, facts);
                    put(besides, s, law.spoilerBesideBaths(facts));
                }
            }
            for (int bath = 0; bath < BATHS; bath++) {
                runBath(town, number, law, bath, booth.came, facts);
            }
        }

        private static void openStrip(Town town, Booth booth, int strip, Facts facts) {
            Diary diary = town.diary;
            facts.open(town, booth, get(diary.stripDay, strip));
            facts.pose(get(diary.stripHead, strip), get(diary.stripStool, strip));
            facts.till(get(diary.stripCounter, strip), get(diary.stripBox, strip));
        }

        /** Marks anew the strips from a day on, at whose beginning the bath is fresh. */
        void runBath(Town town, int number, Law law, int bath, int from, Facts facts) {
            Booth booth = town.boothAt(number);
            if (booth == null) {
                return;
            }
            Diary diary = town.diary;
            int strength = FRESH;
            int counter = 0;
            int box = 0;
            int day = from;
            for (int e = 0; e < diary.events; e++) {
                if (get(diary.eventBooth, e) != number) {
                    continue;
                }
                int when = get(diary.eventDay, e);
                while (day < when) {
                    facts.open(town, booth, day);
                    facts.till(counter, box);
                    strength = law.worn(Token.AGE, bath, strength, facts);
                    day++;
                }
                int what = get(diary.eventWhat, e);
                if (what >= 0) {
                    if (when >= from) {
                        openStrip(town, booth, what, facts);
                        mark(what, bath, law.isWeak(bath, strength));
                        strength = law.worn(Token.TIRE, bath, strength, facts);
                    }
                    counter = get(diary.stripCounter, what) + 1;
                    box = get(diary.stripBox, what) + booth.price;
                } else if (what == Diary.EMPTIED) {
                    box = 0;
                } else if (what == Diary.CHANGED - bath) {
                    strength = FRESH;
                }
            }
        }

        private void mark(int strip, int bath, boolean weak) {
            int bit = 1 << bath;
            int others = get(weakBaths, strip) & ~bit;
            put(weakBaths, strip, weak ? others | bit : others);
        }

        private int spoilerOf(int strip) {
            int baths = get(weakBaths, strip);
            for (int bath = 0; bath < BATHS; bath++) {
                if ((baths >> bath & 1) == 1) {
                    return bath + 1;
                }
            }
            return get(besides, strip);
        }

        int tally(Diary diary, int number, int by) {
            int n = 0;
            for (int s = 0; s < diary.strips; s++) {
                if (diary.isOf(s, number) && spoilerOf(s) == by) {
                    n++;
                }
            }
            return n;
        }

        int tallySpoilt(Diary diary, int number) {
            int n = 0;
            for (int s = 0; s < diary.strips; s++) {
                if (diary.isOf(s, number) && spoilerOf(s) != 0) {
                    n++;
                }
            }
            return n;
        }
    }

    /** The shortest rounds from one place and back. */
    private static final class Rounds {
        static final int FAR = 1000000;

        /** By set * BOOTHS + booth: least miles from the booth through the set and back. */
        private final int[] rest = new int[BOOTHS << BOOTHS];

        void plan(Town town, int from) {
            for (int set = 0; set < 1 << town.booths; set++) {
                for (int b = 0; b < town.booths; b++) {
                    int here = town.spotOf(b);
                    int miles = set == 0 ? town.between(here, from) : leastFrom(town, here, set);
                    put(rest, set * BOOTHS + b, miles);
                }
            }
        }

        /** Least miles from a place through a set and back to where the round began. */
        int leastFrom(Town town, int here, int set) {
            int least = set == 0 ? 0 : FAR;
            for (int b = 0; b < town.booths; b++) {
                if ((set >> b & 1) == 1) {
                    least = Math.min(least, milesBy(town, here, set, b));
                }
            }
            return least;
        }

        /** The same with this booth of the set first. */
        private int milesBy(Town town, int here, int set, int booth) {
            int left = set & ~(1 << booth);
            return town.between(here, town.spotOf(booth)) + get(rest, left * BOOTHS + booth);
        }

        /** The booth at this place in the order, NONE if the set has not so many. */
        int stop(Town town, int from, int set, int nth) {
            int here = from;
            int left = set;
            int booth = NONE;
            for (int i = 0; i <= nth; i++) {
                booth = firstOf(town, here, left);
                if (booth == NONE) {
                    return NONE;
                }
                here = town.spotOf(booth);
                left &= ~(1 << booth);
            }
            return booth;
        }

        private int firstOf(Town town, int here, int set) {
            int least = leastFrom(town, here, set);
            for (int b = 0; b < town.booths; b++) {
                if ((set >> b & 1) == 1 && milesBy(town, here, set, b) == least) {
                    return b;
                }
            }
            return NONE;
        }
    }

    /** Where the booths would take most. */
    private static final class Crane {
        /** By the set of places taken by the first booths: most that the other ones take. */
        private final int[] rest = new int[1 << PLACES];
        private boolean byMost;
        private int cost;

        void plan(Town town, boolean most, int coins) {
            byMost = most;
            cost = coins;
            for (int taken = (1 << town.places) - 1; taken >= 0; taken--) {
                int booth = Integer.bitCount(taken);
                put(rest, taken, booth < town.booths ? mostOf(town, booth, taken) : 0);
            }
        }

        private int mostOf(Town town, int booth, int taken) {
            int most = UNTOLD;
            for (int p = 0; p < town.places; p++) {
                if ((taken >> p & 1) == 0) {
                    most = Math.max(most, coinsBy(town, booth, taken, p));
                }
            }
            return most;
        }

        /** What this booth at a place and the ones behind it would take. */
        private int coinsBy(Town town, int booth, int taken, int place) {
            Booth one = town.boothAt(booth);
            if (one == null) {
                return 0;
            }
            int coins = get(byMost ? one.most : one.least, place);
            int moving = one.spot == place ? 0 : cost;
            return coins - moving + get(rest, taken | 1 << place);
        }

        int together() {
            return get(rest, 0);
        }

        int spotOf(Town town, int booth) {
            int taken = 0;
            int spot = NONE;
            for (int b = 0; b <= booth; b++) {
                spot = firstSpot(town, b, taken);
                if (spot == NONE) {
                    return NONE;
                }
                taken |= 1 << spot;
            }
            return spot;
        }

        private int firstSpot(Town town, int booth, int taken) {
            for (int p = 0; p < town.places; p++) {
                if ((taken >> p & 1) == 0 && coinsBy(town, booth, taken, p) == get(rest, taken)) {
                    return p;
                }
            }
            return NONE;
        }
    }
}
