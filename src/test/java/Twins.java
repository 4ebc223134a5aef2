import java.util.List;

/** Two objects with one past: what a call leaves behind is seen by what both answer later. */
final class Twins {
    interface Past {
        void tell(Counted x);
    }

    /** A call of which one number is looked at. */
    interface Number {
        long on(Counted x, int n);
    }

    private Twins() {
    }

    static Counted of(Past past) {
        Counted x = new Counted();
        past.tell(x);
        return x;
    }

    /** Both pasts lead to the same later answers. */
    static void alike(String what, Past one, Past other, boolean images) {
        Counted x = of(one);
        Counted y = of(other);
        int most = Math.min(x.left(), y.left());
        List<String> xs = Look.at(x, most, images);
        List<String> ys = Look.at(y, most, images);
        for (int i = 0; i < xs.size(); i++) {
            if (!xs.get(i).equals(ys.get(i))) {
                Check.wrong(what + ": then " + xs.get(i) + ", due is: " + ys.get(i));
                return;
            }
        }
    }

    /** The call answers this, and later calls answer as if it had not been made. */
    static void refused(String what, Past past, Look.Call call, long refusal) {
        alike(what, x -> {
            past.tell(x);
            Check.due(what, call.on(x), refusal);
        }, past, true);
    }

    /** The call answers something else than this, and later calls answer as if it had not been made. */
    static void asked(String what, Past past, Look.Call call, long refusal) {
        alike(what, x -> {
            past.tell(x);
            taken(what, x, call, refusal);
        }, past, true);
    }

    private static void taken(String what, Counted x, Look.Call call, long refusal) {
        if (call.on(x) == refusal) {
            Check.wrong(what + " answered " + refusal + " where it is as told");
        }
    }

    /** A call takes the numbers from low to high, and refuses those beside them as if it had not been made. */
    static void range(String what, Past past, Number call, int low, int high, long refusal) {
        for (int n : new int[] {low - 2, low - 1, high + 1, high + 2, Integer.MIN_VALUE, Integer.MAX_VALUE}) {
            refused(what + ": " + n, past, x -> call.on(x, n), refusal);
        }
        taken(what + ": " + low, of(past), x -> call.on(x, low), refusal);
        taken(what + ": " + high, of(past), x -> call.on(x, high), refusal);
    }

    /** The same of a question, which changes nothing where it is answered either. */
    static void question(String what, Past past, Number call, int low, int high, long refusal) {
        range(what, past, call, low, high, refusal);
        asked(what + ": " + low, past, x -> call.on(x, low), refusal);
        asked(what + ": " + high, past, x -> call.on(x, high), refusal);
    }
}
