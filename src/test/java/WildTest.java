/** No call throws, whatever it is told and however late: thousands of drawn calls on each object. */
public final class WildTest {
    private static final int[] ODD = {Integer.MIN_VALUE, -1000000000, -2, -1, 400, 999, 9999, Integer.MAX_VALUE};
    private static final String[] TEXTS = {
        "tire 0 head*99999*99999*99999/[", "dark not not not not not not not not not not 1=1",
        "tire 0 99999*99999*99999*99999*99999/(0-1)", "rent 0-99999*99999*99999*99999/0;age 2 strength/day",
        "off [[[[[[[[[[1=1]]]]]]]]]] or head/0=0 and 1<2;weak 0 999;tire 1 head;refund box/strips<2;refuse stool/light<1"
    };
    private static long seed = 5;

    public static void main(String[] args) {
        for (int run = 0; run < 20; run++) {
            Counted x = new Counted(Integer.MAX_VALUE);
            for (int i = 0; i < 20000; i++) {
                call(x, pick(36));
            }
        }
        Check.end();
    }

    private static int pick(int n) {
        seed = seed * 6364136223846793005L + 1442695040888963407L;
        return (int) ((seed >>> 33) % n);
    }

    private static int n() {
        switch (pick(12)) {
            case 0:
                return ODD[pick(ODD.length)];
            case 1:
                return pick(400);
            case 2:
                return pick(100);
            default:
                return pick(9);
        }
    }

    private static void call(Counted x, int kind) {
        switch (kind) {
            case 0: x.place(n()); break;
            case 1: x.miles(n(), n(), n()); break;
            case 2: x.heat(n(), n()); break;
            case 3: x.feed(n(), ODD[pick(8)], n(), n(), n()); break;
            case 4: x.end(n()); break;
            case 5: x.law(); break;
            case 6: x.booth(n(), n(), n()); break;
            case 7: x.move(n(), n()); break;
            case 8: x.paper(n(), n()); break;
            case 9: x.strip(n(), n(), n()); break;
            case 10: if (pick(50) == 0) { x.clock(n()); } break;
            case 11: x.change(n(), n()); break;
            case 12: x.empty(n()); break;
            case 13: x.of(n(), n()); break;
            case 14: x.spoilt(n(), n()); break;
            case 15: x.again(n(), n(), n()); break;
            case 16: x.with(n(), n(), n()); break;
            case 17: if (pick(20) == 0) { x.finest(n(), n()); } break;
            case 18: x.reading(n(), n(), n(), n()); break;
            case 19: x.agree(n(), n(), n()); break;
            case 20: x.claim(n(), n(), n()); break;
            case 21: x.fair(n(), n()); break;
            case 22: x.suspect(n()); break;
            case 23: x.refused(n(), n()); break;
            case 24: x.newer(n(), n()); break;
            case 25: x.rent(n(), n(), n(), n()); break;
            case 26: x.cheapest(n(), n(), n()); break;
            case 27: x.round(n(), n(), n()); break;
            case 28: x.call(n(), n()); break;
            case 29: x.worthy(n(), n(), n()); break;
            case 30: x.takes(n(), n(), n(), n()); break;
            case 31: x.placed(pick(2) == 0, n(), n()); break;
            case 32: x.count(n()); break;
            case 33: if (pick(20) == 0) { x.image(n()); } break;
            case 34: if (pick(20) == 0) { x.back(n()); } break;
            default: Check.tape(x, TEXTS[pick(TEXTS.length)]); x.law(); break;
        }
    }
}
