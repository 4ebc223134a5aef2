/** Promises 5 to 7: the tape, and the first fault of a text by its place and kind. */
public final class FaultsTest {
    private static final String DEEP = "[[[[[[[[[[";

    public static void main(String[] args) {
        tapeGrowsAndShrinks();
        goodTexts();
        wrongBytesAndWords();
        wrongNumbers();
        tooDeep();
        tooMany();
        clauses();
        lawsAreEight();
        Check.end();
    }

    private static void tapeGrowsAndShrinks() {
        Counted x = new Counted();
        for (int i = 1; i <= 20; i++) {
            Check.due("feed " + i, x.feed(i, 0, 0, 0, 0), 20 * i);
        }
        Check.due("feed beyond 400", x.feed(0, 0, 0, 0, 0), -1);
        Check.due("count after it", x.count(8), 400);
        Check.due("end beyond", x.end(401), -1);
        Check.due("end below 0", x.end(-1), -1);
        Check.due("end nothing happened", x.count(8), 400);
        Check.due("end 381", x.end(381), 381);
        Check.due("feed from 381", x.feed(0, 0, 0, 0, 0), -1);
        Check.due("end 380", x.end(380), 380);
        Check.due("feed from 380", x.feed(0, 0, 0, 0, 0), 400);
        Check.due("end 0", x.end(0), 0);
        Check.due("end 0 again", x.end(0), 0);
        Check.due("bytes of high numbers", x.feed(-1, 0, 0, 0, 0), 20);
        Check.due("byte 255 can't stand", x.law(), -3);
        Check.due("tape empty after a fault", x.count(8), 0);
        // The bytes behind the end are no part of the text.
        Check.tape(x, "dark day <=");
        x.end(10);
        Check.due("cut sign", x.law(), -3 - 80);
        Check.tape(x, "dark day < 1234");
        x.end(12);
        Check.due("cut number", x.law(), 0);
        Check.due("tape empty after a law", x.count(8), 0);
        feedBehindEnd();
    }

    /** "Twenty bytes come behind the TAPE": behind its first n alone, of each number the highest first. */
    private static void feedBehindEnd() {
        Counted x = new Counted();
        x.place(7);
        Check.due("feed", x.feed(four("rent"), four(" 123"), four("45]]"), four("]]]]"), four("]]]]")), 20);
        Check.due("end", x.end(8), 8);
        Check.due("feed behind 8", x.feed(four("4 +5"), four("*6  "), four(" ;da"), four("rk 1"), four("]]]]")), 28);
        Check.due("end", x.end(16), 16);
        Check.due("end below it", x.end(17), -1);
        Check.due("law", x.law(), 0);
        x.booth(0, 1, 0);
        Check.due("RENT", x.rent(0, 0, 0, 0), 1234 + 30);
        Check.due("feed an empty TAPE", x.feed(0x72656e74, 0x20370000, 0, 0, 0), 20);
        Check.due("end", x.end(6), 6);
        Check.due("law", x.law(), 1);
        Check.due("RENT", x.rent(1, 0, 0, 0), 7);
    }

    private static int four(String text) {
        return Check.four(text, 0);
    }

    private static void good(String text) {
        Counted x = new Counted();
        Check.due("law " + text, Check.law(x, text), 0);
        Check.due("laws of " + text, x.count(2), 1);
    }

    private static void fault(String text, int place, int kind) {
        Counted x = new Counted();
        Check.due("law " + text, Check.law(x, text), -2 - (1 + 8 * place + kind));
        Check.due("laws of " + text, x.count(2), 0);
        Check.due("tape of " + text, x.count(8), 0);
    }

    private static void goodTexts() {
        good("tire 0 1");
        good("  tire0 1  ");
        good("tire0 5if head<3");
        good("tire 0 1+2*3-4/0");
        good("tire 00000 99999;age 2 head+stool-light*heat/day+strength-strips+box-place");
        good("weak 0 999;weak 1 0;weak 2 00999");
        good("dark 1<2 or 1<=2 and 1=2 or 1>=2 or 1>2");
        good("off not not[1<2 or[not 2=3]]and 4>5");
        good("refuse head=1;refund box<2;rent 5;rent 6 if day=3;rent strips*2 if not box>4 or 1=1");
        good("dark " + DEEP + "1=1]]]]]]]]]]");
        good("dark not not not not not not not not not not 1=1");
        good("dark [[[[[1=1]]]]] and [[[[[1=1]]]]] or not[not[not[not[not[1=1]]]]]");
    }

    private static void wrongBytesAndWords() {
        fault("", 0, 0);
        fault("   ", 3, 0);
        fault("tire", 4, 0);
        fault("tire ", 5, 0);
        fault("tire 0", 6, 0);
        fault("tire 0 ", 7, 0);
        fault("tire x 1", 5, 0);
        fault("tire 0 1 1", 9, 0);
        fault("tire 0 1;", 9, 0);
        fault("tire 0 1;;", 9, 0);
        fault(";tire 0 1", 0, 0);
        fault("tires 0 1", 0, 0);
        fault("tir", 0, 0);
        fault("Tire 0 1", 0, 0);
        fault("head 0 1", 0, 0);
        fault("tire 0 -1", 7, 0);
        fault("tire 0 1+", 9, 0);
        fault("tire 0 1+*2", 9, 0);
        fault("tire 0 1 if", 11, 0);
        fault("tire 0 1 of 1=1", 9, 0);
        fault("tire 0 1 if 1", 13, 0);
        fault("tire 0 1=1", 8, 0);
        fault("tire 0 (1)", 7, 0);
        fault("tire 0 [1]", 7, 0);
        fault("tire 0 age", 7, 0);
        fault("tire 0 headstool", 7, 0);
        fault("tire 0 12head", 9, 0);
        fault("tire 0 1ifhead<3", 8, 0);
        fault("weak 0 9 if 1=1", 9, 0);
        fault("weak 0 head", 7, 0);
        fault("weak 0", 6, 0);
        fault("weak head 1", 5, 0);
        fault("dark", 4, 0);
        fault("dark light", 10, 0);
        fault("dark light < ", 13, 0);
        fault("dark light < = 3", 13, 0);
        fault("dark light =< 3", 12, 0);
        fault("dark light <> 3", 12, 0);
        fault("dark light <== 3", 13, 0);
        fault("dark 1<2<3", 8, 0);
        fault("dark 1<2 and", 12, 0);
        fault("dark 1<2 and or 1<2", 13, 0);
        fault("dark 1<2 not 1<2", 9, 0);
        fault("dark 1<not 2", 7, 0);
        fault("dark [1<2", 9, 0);
        fault("dark 1<2]", 8, 0);
        fault("dark [1<2;off 1<2", 9, 0);
        fault("dark [1<2] < 3", 11, 0);
        fault("dark [1<2] + 3", 11, 0);
        fault("dark [1]<2", 7, 0);
        fault("dark []", 6, 0);
        fault("dark 1<2 if 1<2", 9, 0);
        fault("rent 1,2", 6, 0);
        fault("rent 1\u00002", 6, 0);
        fault("rent 1\u00e92", 6, 0);
        fault("rent 1\n", 6, 0);
        fault("refund if 1<2", 7, 0);
        // a number where none can stand: the byte, whatever its digits
        fault("123456", 0, 0);
        fault("tire 0 1 123456", 9, 0);
    }

    private static void wrongNumbers() {
        fault("tire 3 1", 5, 1);
        fault("age 3 1", 4, 1);
        fault("tire 000000 1", 5, 1);
        fault("tire 0 100000", 7, 1);
        fault("tire 0 000001", 7, 1);
        fault("tire 0 1+123456", 9, 1);
        fault("weak 3 1", 5, 1);
        fault("weak 0 1000", 7, 1);
        fault("weak 0 000001", 7, 1);
        fault("refuse head > 123456", 14, 1);
        fault("tire 9 100000", 5, 1);
    }

    private static void tooDeep() {
        fault("dark " + DEEP + "[1=1]]]]]]]]]]]", 15, 2);
        fault("dark not not not not not not not not not not not 1=1", 45, 2);
        fault("dark " + DEEP + "not 1=1]]]]]]]]]]", 15, 2);
        fault("dark not not not not not[[[[[ [1=1]]]]]]", 30, 2);
        good("dark not[not[not[not[not[1=1]]]]] and " + DEEP + "1=1]]]]]]]]]]");
        fault("dark not[not[not[not[not[1=1 and [1=1]]]]]]", 33, 2);
    }

    private static String ones(int n) {
        StringBuilder text = new StringBuilder("1");
        for (int i = 1; i < n; i++) {
            text.append("+1");
        }
        return text.toString();
    }

    private static void tooMany() {
        good("rent " + ones(60));
        fault("rent " + ones(61), 5 + 120, 3);
        fault("rent " + ones(60) + "+head", 5 + 120, 3);
        fault("rent " + ones(60) + "+123456", 5 + 120, 1);
        fault("rent " + ones(60) + "+if", 5 + 120, 0);
        fault("rent " + ones(60) + "=1", 5 + 119, 0);
        good("dark " + ones(58) + "<1");
        fault("dark " + ones(59) + "<1", 5 + 118, 3);
        fault("dark " + ones(60) + "<1", 5 + 119, 3);
        fault("dark " + ones(60) + " <=", 5 + 120, 3);
        good("weak 0 1;weak 1 2;tire 0 " + ones(30) + ";age 0 " + ones(30));
        fault("tire 0 " + ones(30) + ";age 0 " + ones(31), 7 + 59 + 7 + 60, 3);
    }

    private static void clauses() {
        String thirteen = "age 0 1;age 0 1;age 0 1;age 0 1;age 0 1;age 0 1;age 0 1;"
            + "age 0 1;age 0 1;age 0 1;age 0 1;age 0 1;age 0 1;";
        good(thirteen + "off 1=1");
        fault(thirteen + "off 1=1;", 112, 0);
        fault(thirteen + "off 1=1; dark", 113, 4);
        fault(thirteen + "off 1=1;offf", 112, 0);
        fault(thirteen + "off 1=1;5", 112, 0);
        fault("weak 0 1;weak 0 2", 14, 4);
        fault("weak 0 1;weak 00 2", 14, 4);
        fault("weak 2 1;weak 1 1;weak  2 1", 24, 4);
        fault("weak 0 1;weak 3 2", 14, 1);
        good("weak 0 1;weak 2 1;weak 1 1");
    }

    private static void lawsAreEight() {
        Counted x = new Counted();
        for (int i = 0; i < 8; i++) {
            Check.due("a faulty law", Check.law(x, "dark"), -3 - 32);
            Check.due("law " + i, Check.law(x, "dark light<" + i), i);
        }
        Check.tape(x, "dark");
        Check.due("a ninth law", x.law(), -1);
        Check.due("its tape stays", x.count(8), 4);
        Check.due("laws", x.count(2), 8);
    }
}
