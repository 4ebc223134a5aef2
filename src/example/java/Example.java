/** A booth whose first bath tires until it spoils the strips, and is changed. */
public final class Example {
    public static void main(String[] args) {
        FourPoses x = new FourPoses();
        tell(x, "tire 0 300; weak 0 500");
        int law = x.law();
        int place = x.place(50);
        int booth = x.booth(place, 3, law);
        System.out.println("law " + law + ", place " + place + ", booth " + booth);
        System.out.println("paper for " + x.paper(booth, 10));
        for (int i = 0; i < 3; i++) {
            System.out.println("a strip, spoilt by " + x.strip(booth, 40, 5));
        }
        System.out.println("coins in the box: " + x.of(booth, 4));
        System.out.println("the first bath was at " + x.change(booth, 0));
        System.out.println("a strip, spoilt by " + x.strip(booth, 40, 5));

        tell(x, "tire 3 300");
        int fault = -2 - x.law();
        System.out.println("a fault of kind " + (fault - 1) % 8 + " at byte " + (fault - 1) / 8);
    }

    /** The text stands on the tape, alone: twenty bytes a call, then cut to its length. */
    private static void tell(FourPoses x, String text) {
        x.end(0);
        for (int at = 0; at < text.length(); at += 20) {
            x.feed(four(text, at), four(text, at + 4), four(text, at + 8), four(text, at + 12), four(text, at + 16));
        }
        x.end(text.length());
    }

    /** Four bytes of the text as a number, the highest first; 0 behind its end. */
    private static int four(String text, int at) {
        int n = 0;
        for (int i = at; i < at + 4; i++) {
            n = n * 256 + (i < text.length() ? text.charAt(i) : 0);
        }
        return n;
    }
}
