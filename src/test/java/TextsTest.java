/** Texts of LAWS by the sentences of the Terms: their length, NUMBERS, WORDS, signs, and what they are worth. */
public final class TextsTest {
    private static final String[] WORDS =
        {"head", "stool", "light", "heat", "day", "strength", "strips", "box", "place"};
    private static final String[] SORTS = {"tire", "age", "weak", "dark", "off", "refuse", "refund", "rent"};
    /** 2 to the power of 62, and of 63, which is the least of all. */
    private static final String HIGH = "32768*32768*32768*32768*4";
    private static final String LEAST = "32768*32768*32768*32768*8";

    public static void main(String[] args) {
        lengths();
        clauses();
        baths();
        weakNumbers();
        numbers();
        words();
        bytes();
        blanks();
        depths();
        values();
        sums();
        divisions();
        goingRound();
        signs();
        tests();
        firstClauses();
        holding();
        behindFaults();
        behindManyFaults();
        Check.end();
    }

    private static void good(String text) {
        Check.due("law " + text, Check.law(new Counted(), text), 0);
    }

    private static void fault(String text, int place, int kind) {
        Check.due("law " + text, Check.law(new Counted(), text), -2 - (1 + 8 * place + kind));
    }

    /** What the RENT of a text is. */
    private static void rent(String text, long due) {
        Check.due("rent by " + text, Towns.house(text, 10).rent(0, 0, 0, 0), due);
    }

    private static void sum(String sum, long due) {
        rent("rent " + sum, due);
    }

    /** The same of the first bytes of a text alone. */
    private static void cut(String text, int bytes, int due) {
        Counted x = new Counted();
        x.place(50);
        Check.tape(x, text);
        x.end(bytes);
        Check.due("law " + bytes + " of " + text, x.law(), 0);
        x.booth(0, 3, 0);
        Check.due("rent by " + bytes + " of " + text, x.rent(0, 0, 0, 0), due);
    }

    private static void test(String test, boolean due) {
        Check.due("dark " + test, Towns.house("dark " + test, 10).strip(0, 1, 0), due ? 4 : 0);
    }

    /** "of at most 400 bytes", read to the last of them. */
    private static void lengths() {
        rent("rent" + " ".repeat(395) + "7", 7);
        rent("rent" + " ".repeat(394) + "77", 77);
        rent("rent 7" + " ".repeat(394), 7);
        fault("rent" + " ".repeat(396), 400, 0);
        fault("rent 7" + " ".repeat(393) + "]", 399, 0);
        fault("rent 7" + " ".repeat(393) + "+", 400, 0);
        fault(" ".repeat(400), 400, 0);
        rent("rent" + " ".repeat(391) + "12345", 12345);
        cut("rent 1234", 6, 1);
        cut("rent 1234", 8, 123);
        cut("rent 7+heat", 6, 7);
        cut("rent heats", 9, 15);
        cut("rent 5;rent", 6, 5);
        cut("rent 5 if 1=23", 13, 0);
        cut("rent 5 if 2=23", 13, 5);
        cut("rent 123456", 10, 12345);
    }

    /** "CLAUSE { ; CLAUSE }, 14 at most": the fourteenth counts, a fifteenth is a fault at its first byte. */
    private static void clauses() {
        String thirteen = "age 0 1;".repeat(13);
        rent(thirteen + "rent 9", 9);
        rent("rent 9;" + thirteen.substring(0, 103), 9);
        fault(thirteen + "rent 9;rent 8", 111, 4);
        fault(thirteen + "rent 9;  weak 0 1", 113, 4);
        fault(thirteen + "rent 9;rent", 111, 4);
        fault(thirteen + "rent 9;box", 111, 0);
        fault(thirteen + "rent 9;", 111, 0);
        fault(thirteen + "rent 9;;", 111, 0);
        fault("", 0, 0);
        fault("rent 1;", 7, 0);
        fault(";rent 1", 0, 0);
        fault("rent 1;;rent 2", 7, 0);
        fault("rent 1 rent 2", 7, 0);
    }

    /** "BATH: a NUMBER 0 to 2", of each sort that has one. */
    private static void baths() {
        for (String sort : new String[] {"tire ", "age ", "weak "}) {
            for (int bath = 0; bath <= 2; bath++) {
                good(sort + bath + " 5");
                good(sort + "0000" + bath + " 5");
            }
            for (String other : new String[] {"3", "9", "10", "00003", "99999", "000000", "100000"}) {
                fault(sort + other + " 5", sort.length(), 1);
            }
            for (String other : new String[] {"-1 5", "head 5", "[0] 5", "; 5", "if 1=1", "=5"}) {
                fault(sort + other, sort.length(), 0);
            }
            fault(sort, sort.length(), 0);
        }
        Counted x = Towns.house("tire 0 1;tire 1 2;tire 2 3;age 0 10;age 1 20;age 2 30", 10);
        x.strip(0, 1, 1);
        x.clock(1);
        for (int bath = 0; bath <= 2; bath++) {
            Check.due("tired and aged BATH " + bath, x.of(0, bath), 1000 - 11 * (bath + 1));
        }
    }

    /** "weak BATH NUMBER (0 to 999)", "weak once at most for each BATH". */
    private static void weakNumbers() {
        for (int bath = 0; bath <= 2; bath++) {
            good("weak " + bath + " 0");
            good("weak " + bath + " 999");
            good("weak " + bath + " 00999");
            fault("weak " + bath + " 1000", 7, 1);
            fault("weak " + bath + " 99999", 7, 1);
            fault("weak " + bath + " 000999", 7, 1);
            fault("weak " + bath + " head", 7, 0);
            fault("weak " + bath + " 5+1", 8, 0);
            fault("weak " + bath + " 5;weak " + bath + " 5", 14, 4);
            fault("weak " + bath + " 5;weak " + bath, 14, 4);
            fault("weak " + bath + " 5;rent 1;weak 0000" + bath + " 9999", 21, 4);
            fault("weak " + bath + " 5;weak 00000" + bath + " 5", 14, 1);
        }
        good("weak 0 1;weak 1 1;weak 2 1");
        good("weak 2 0;weak 0 0;weak 1 0;tire 0 1;tire 0 1");
        fault("weak 0 0;weak 1 0;weak 2 0;weak 0 0", 32, 4);
    }

    /** "NUMBER (1 to 5 digits, as far as digits go on)". */
    private static void numbers() {
        sum("0", 0);
        sum("9", 9);
        sum("10", 10);
        sum("99999", 99999);
        sum("00000", 0);
        sum("00012", 12);
        sum("54321", 54321);
        for (String more : new String[] {"100000", "000000", "000001", "1234567890123456789012345"}) {
            fault("rent " + more, 5, 1);
            fault("rent 1+" + more, 7, 1);
            fault("dark head<" + more, 10, 1);
        }
        fault("rent 12 345", 8, 0);
        fault("rent 1 100000", 7, 0);
        fault("rent 1.5", 6, 0);
    }

    /** "WORDS (small letters, as far as these go on)". */
    private static void words() {
        for (String word : WORDS) {
            String less = word.substring(0, word.length() - 1);
            good("rent " + word);
            good("rent " + word + "/2");
            fault("rent " + less, 5, 0);
            fault("rent " + word + "s", 5, 0);
            fault("rent " + word + word, 5, 0);
            fault("rent " + word.substring(0, 1).toUpperCase() + word.substring(1), 5, 0);
            fault("rent " + word + "A", 5 + word.length(), 0);
            fault("rent " + word + "5", 5 + word.length(), 0);
            fault("rent " + word + " 5", 6 + word.length(), 0);
            fault(word, 0, 0);
            fault("rent 1 " + word, 7, 0);
        }
        for (String sort : SORTS) {
            fault(sort.substring(0, sort.length() - 1) + " 0 1", 0, 0);
            fault(sort + "s 0 1", 0, 0);
            fault(sort.toUpperCase() + " 0 1", 0, 0);
            fault("rent " + sort, 5, 0);
            fault("rent 1 " + sort, 7, 0);
            fault(sort, sort.length(), 0);
        }
        for (String word : new String[] {"if", "or", "and", "not"}) {
            fault(word, 0, 0);
            fault("rent " + word, 5, 0);
            fault("rent 1+" + word, 7, 0);
            fault("dark 1<" + word, 7, 0);
        }
        for (String word : new String[] {"i", "iff", "o", "an", "no", "or", "and", "not", "IF"}) {
            fault("rent 1 " + word + " 1=1", 7, 0);
        }
        for (String word : new String[] {"o", "orr", "an", "andd", "if", "not", "OR"}) {
            fault("dark 1=1 " + word + " 1=1", 9, 0);
        }
        for (String word : new String[] {"no", "nott", "if", "or", "and", "NOT"}) {
            fault("dark " + word + " 1=1", 5, 0);
        }
    }

    /** Each byte of 256 at each place where something else can stand; "the end (behind the last byte)". */
    private static void bytes() {
        for (char c = 0; c < 256; c++) {
            boolean digit = c >= '0' && c <= '9';
            boolean blank = c == ' ';
            boolean joins = "+-*/".indexOf(c) >= 0;
            fault("" + c, blank ? 1 : 0, 0);
            byteBehind("rent ", c, digit, blank);
            byteBehind("rent 1", c, digit || blank, joins || c == ';');
            byteBehind("rent head", c, blank, joins || c == ';');
            byteBehind("dark ", c, false, digit || blank || c == '[');
            byteBehind("dark 1", c, false, digit || blank || joins || "<=>".indexOf(c) >= 0);
            byteBehind("dark 1<", c, digit, blank || c == '=');
            byteBehind("dark 1>", c, digit, blank || c == '=');
            byteBehind("dark 1=", c, digit, blank);
            byteBehind("dark 1=1", c, digit || blank, joins || c == ';');
            byteBehind("dark [1=1", c, false, digit || blank || joins || c == ']');
            byteBehind("dark [1=1]", c, blank, c == ';');
            byteBehind("weak 0 1", c, digit || blank, c == ';');
            if (c < '3' || c > '9') {
                byteBehind("tire ", c, false, digit || blank);
            }
        }
    }

    /** A byte that makes the text good, or one behind which something is missing, or one that can't stand there. */
    private static void byteBehind(String text, char c, boolean good, boolean onward) {
        if (good) {
            good(text + c);
        } else if (text.equals("dark [1=1") && c == ']') {
            good(text + c);
        } else if (c >= 'a' && c <= 'z' && text.endsWith("head")) {
            fault(text + c, text.length() - 4, 0);
        } else {
            fault(text + c, text.length() + (onward ? 1 : 0), 0);
        }
    }

    /** "Blanks (32) stand between as one likes." */
    private static void blanks() {
        rent("rent7", 7);
        rent("   rent   7   ", 7);
        rent("rent7if1=1", 7);
        rent("rent 7if not[1=2]and[1=1]or 1=2", 7);
        rent(" rent  7 + 3  * 2 if  not  [ 1 <= 0 ]  ; rent 5 ", 13);
        good("tire0head");
        good("weak0 5;weak1 5");
        fault("weak 05", 5, 1);
        fault("rent 7 if1 = 1and2", 18, 0);
        fault("ti re 0 1", 0, 0);
        fault("rent he ad", 5, 0);
        fault("dark 1 < = 1", 9, 0);
        fault("dark 1 > = 1", 9, 0);
        fault("dark 1=1an d 1=1", 8, 0);
        fault("rent\t7", 4, 0);
        fault("rent\n7", 4, 0);
        fault("rent" + (char) 160 + "7", 4, 0);
    }

    /** "[ and not lie within one another 10 deep at most": the eleventh is a fault at its sign or word. */
    private static void depths() {
        test("[".repeat(10) + "1=1" + "]".repeat(10), true);
        test("not ".repeat(10) + "1=1", true);
        test("not ".repeat(9) + "1=1", false);
        test("not[".repeat(5) + "1=1" + "]".repeat(5), false);
        fault("dark " + "[".repeat(11) + "1=1" + "]".repeat(11), 15, 2);
        fault("dark " + "not ".repeat(11) + "1=1", 45, 2);
        fault("dark " + "not[".repeat(5) + "not 1=1" + "]".repeat(5), 25, 2);
        fault("dark " + "[not ".repeat(5) + "[1=1]" + "]".repeat(5), 30, 2);
        fault("dark " + "[".repeat(10) + "  [", 17, 2);
        fault("dark " + "[".repeat(10) + " not", 16, 2);
        fault("dark " + "[".repeat(10) + "nott", 15, 0);
        fault("rent 5 if " + "[".repeat(11), 20, 2);
        // what is closed, or a FACT behind a not's own, lies within it no more
        good("dark " + "[".repeat(10) + "1=1" + "]".repeat(10) + " and " + "[".repeat(10) + "1=1" + "]".repeat(10));
        good("dark " + "not ".repeat(10) + "1=1 or " + "not ".repeat(10) + "1=1");
        good("dark not 1=1 and " + "[".repeat(10) + "1=1" + "]".repeat(10));
        good("dark [not 1=1 and " + "[".repeat(9) + "1=1" + "]".repeat(10));
        fault("dark [1=1 and " + "[".repeat(10) + "1=1" + "]".repeat(11), 23, 2);
        good("dark " + "[".repeat(10) + "1=1" + "]".repeat(10) + ";off " + "[".repeat(10) + "1=1" + "]".repeat(10));
    }

    /** "at most 60 VALUES and FACTS made of a SIGN, together". */
    private static void values() {
        sum("1" + "+1".repeat(59), 60);
        fault("rent 1" + "+1".repeat(60), 125, 3);
        fault("rent 1" + "+1".repeat(59) + "+box", 125, 3);
        fault("rent 1" + "+1".repeat(59) + "+100000", 125, 1);
        fault("rent 1" + "+1".repeat(59) + "+if", 125, 0);
        // a FACT is a third one beside its two SUMS of one VALUE: twenty are 60
        test("1=2" + " or 1=2".repeat(18) + " or 1=1", true);
        fault("dark 1=1" + " or 1=1".repeat(19) + " or 1=1", 5 + 7 * 20, 3);
        fault("dark 1=1" + " or 1=1".repeat(18) + " or 1+1=1", 5 + 7 * 19 + 4, 3);
        fault("dark 1=1" + " or 1=1".repeat(18) + " or 1+1+1=1", 5 + 7 * 19 + 5, 3);
        fault("dark 1=1" + " or 1=1".repeat(18) + " or 1+1+1  >=1", 5 + 7 * 19 + 7, 3);
        fault("dark 1=1" + " or 1=1".repeat(18) + " or 1+1+1+1=1", 5 + 7 * 19 + 6, 3);
        good("dark not[1=1]" + " or not[1=1]".repeat(19));
        // of all clauses together, without NUMBERS of BATHS and of weak
        good("weak 0 5;weak 1 5;weak 2 5;tire 0 1" + "+1".repeat(28) + ";age 2 1" + "+1".repeat(30));
        fault("weak 0 5;tire 0 1" + "+1".repeat(29) + ";age 2 1" + "+1".repeat(30), 16 + 58 + 1 + 7 + 60, 3);
        fault("rent 1" + "+1".repeat(59) + ";rent head", 5 + 119 + 6, 3);
        good("rent 1" + "+1".repeat(59) + ";weak 0 5");
    }

    /** "SUM: TERM { (+ or -) TERM }. TERM: VALUE { (* or /) VALUE }". */
    private static void sums() {
        sum("2+3*4", 14);
        sum("2*3+4", 10);
        sum("20-2*3", 14);
        sum("9-3-2", 4);
        sum("9-3+2", 8);
        sum("2-3", -1);
        sum("20/3*2", 12);
        sum("20*3/2", 30);
        sum("100/10/5", 2);
        sum("1-2*3-4/2", -7);
        fault("rent -1", 5, 0);
        fault("rent 1--1", 7, 0);
        fault("rent 2*-1", 7, 0);
        fault("rent +1", 5, 0);
        fault("rent 1+", 7, 0);
        fault("rent 1*", 7, 0);
        fault("rent 1*/2", 7, 0);
    }

    /** "/ is towards 0, 0 by 0". */
    private static void divisions() {
        sum("7/2", 3);
        sum("1/2", 0);
        sum("0-7/2", -3);
        sum("5/0", 0);
        sum("0/0", 0);
        sum("5/0+1", 1);
        sum("5/0*7", 0);
        sum("5/head", 0);
        sum("1-" + LEAST + "/0", 1);
        String eight = LEAST + "/32768/32768/32768/32768";
        sum(eight, -8);
        sum(eight + "/3", -2);
        sum(eight + "/5", -1);
        sum(eight + "/9", 0);
        test(LEAST + "/3*3-2=" + LEAST, true);
    }

    /** "all goes round in 64 bits". */
    private static void goingRound() {
        test(HIGH + ">0", true);
        test(HIGH + "+" + HIGH + "<0", true);
        test(HIGH + "+" + HIGH + "=" + LEAST, true);
        test("0-" + HIGH + "-" + HIGH + "<0", true);
        test("0-" + HIGH + "-" + HIGH + "-1>0", true);
        test(LEAST + "<0", true);
        test(LEAST + "*2=0", true);
        test(LEAST + "-1>0", true);
        test("0-" + LEAST + "=" + LEAST, true);
        // what lies far apart is beside one another as it is, not by its difference
        test(LEAST + "<1", true);
        test("1>" + LEAST, true);
        test(HIGH + ">0-" + HIGH, true);
        sum("65536*65536*65536*65536", 0);
        sum("65536*65536*65536*65536+5", 5);
        sum("65536*32768", 99999999);
        sum("65536*65536", 99999999);
        sum("65536*65536+5", 99999999);
        sum(LEAST, -99999999);
        sum("0-65536*32768", -99999999);
        String[] tires = {"65536*65536*65536*65536", "65536*65536*65536*65536+5", "65536*32768", "65536*65536", LEAST,
            "0-65536*65536+1", HIGH};
        int[] due = {1000, 995, 0, 0, 1000, 1000, 0};
        for (int i = 0; i < tires.length; i++) {
            Counted x = Towns.house("tire 0 " + tires[i] + ";age 1 " + tires[i], 10);
            x.strip(0, 1, 1);
            x.clock(1);
            Check.due("tired by " + tires[i], x.of(0, 0), due[i]);
            Check.due("aged by " + tires[i], x.of(0, 1), due[i]);
        }
    }

    /** "SIGN one of < <= = >= >". */
    private static void signs() {
        String[] signs = {"<", "<=", "=", ">=", ">"};
        boolean[][] due = {{true, false, false}, {true, true, false}, {false, true, false},
            {false, true, true}, {false, false, true}};
        for (int i = 0; i < signs.length; i++) {
            for (int n = 4; n <= 6; n++) {
                test(n + signs[i] + "5", due[i][n - 4]);
                test("head+" + (n - 1) + " " + signs[i] + " heat/3", due[i][n - 4]);
                test("0-5" + signs[i] + "0-" + n, due[i][n - 4]);
                test("not " + n + signs[i] + "5", !due[i][n - 4]);
                test(n + signs[i] + "5 and 1=1", due[i][n - 4]);
                test("1<=1 and " + n + signs[i] + "5", due[i][n - 4]);
                test("1=2 or " + n + signs[i] + "5", due[i][n - 4]);
            }
        }
        for (String other : new String[] {"=<", "=>", "==", "<>", "><", "<<", ">>", "<==", ">=="}) {
            fault("dark 1" + other + "1", 5 + other.length(), 0);
        }
        fault("dark 1!=1", 6, 0);
        fault("dark 1=1=1", 8, 0);
        fault("dark 1", 6, 0);
        fault("dark 1 and 1=1", 7, 0);
    }

    /** "TEST: PART { or PART }. PART: FACT { and FACT }. FACT: not FACT | [ TEST ] | SUM SIGN SUM". */
    private static void tests() {
        test("1=1 or 1=1 and 1=2", true);
        test("1=2 and 1=1 or 1=1", true);
        test("[1=1 or 1=1] and 1=2", false);
        test("1=2 and [1=1 or 1=1]", false);
        test("1=2 or 1=2 or 1=1", true);
        test("1=2 or 1=2 or 1=2", false);
        test("1=1 and 1=1 and 1=2", false);
        test("1=1 and 1=1 and 1=1", true);
        test("not 1=2 and 1=2", false);
        test("not 1=1 or 1=1", true);
        test("not [1=2 and 1=2]", true);
        test("not [1=1 or 1=2]", false);
        test("not not 1=1", true);
        test("1=1 and not 1=2", true);
        test("1=2 or not 1=1 or 1=2", false);
        fault("dark [1=1", 9, 0);
        fault("dark 1=1]", 8, 0);
        fault("dark [[1=1]", 11, 0);
        fault("dark [1=1]]", 10, 0);
        fault("dark []", 6, 0);
        fault("dark [1]=1", 7, 0);
        fault("dark 1=[1]", 7, 0);
        fault("dark 1=1 and", 12, 0);
        fault("dark 1=1 or", 11, 0);
        fault("dark not", 8, 0);
        fault("dark 1=1 if 1=1", 9, 0);
    }

    /** "Each SUM is that of the first CLAUSE of its sort (and BATH) without a TEST, or whose TEST holds." */
    private static void firstClauses() {
        rent("rent 1;rent 2", 1);
        rent("rent 1 if 1=2;rent 2;rent 3", 2);
        rent("rent 1 if 1=2;rent 2 if 1=1;rent 3", 2);
        rent("rent 1;rent 2 if 1=1", 1);
        rent("rent 1 if 1=2;rent 2 if 1=2", 0);
        rent("tire 0 9;age 0 9;rent 0 if 1=1;rent 5", 0);
        rent("dark 1=1", 0);
        Counted x = Towns.house("tire 1 5;tire 0 1 if head=9;age 0 7 if heat=16;tire 0 2;tire 2 3 if 1=2;age 2 8;age 2 9", 10);
        x.strip(0, 8, 0);
        int[] tired = {998, 995, 1000};
        x.clock(1);
        int[] aged = {998, 995, 992};
        for (int bath = 0; bath < 3; bath++) {
            Check.due("BATH " + bath, x.of(0, bath), Math.min(tired[bath], aged[bath]));
        }
        x.strip(0, 9, 0);
        Check.due("the first one holds", x.of(0, 0), 997);
        x.heat(1, 16);
        x.clock(2);
        Check.due("the first age holds", x.of(0, 0), 990);
    }

    /** "a TEST of a sort HOLDS if some CLAUSE of it does". */
    private static void holding() {
        String[] sorts = {"dark", "off"};
        for (int i = 0; i < sorts.length; i++) {
            String sort = sorts[i];
            Counted x = Towns.house(sort + " head=1;rent 5;" + sort + " head=2;" + sort + " head=4", 10);
            for (int head = 1; head <= 5; head++) {
                Check.due(sort + " of head " + head, x.strip(0, head, 0), head == 3 || head == 5 ? 0 : 4 + i);
            }
        }
        Counted x = Towns.house("refuse head=1;off 1=2;refuse head=3;refund box=2;refund box=3", 10);
        for (int head = 1; head <= 4; head++) {
            x.strip(0, head, 0);
        }
        Check.due("REFUSED", x.refused(0, 0), 2);
        for (int claim = 0; claim < 4; claim++) {
            x.claim(6, 0, 0);
            Check.due("refund of claim " + claim, x.fair(claim, 1), claim == 1 || claim == 2 ? 1 : 0);
        }
    }

    /** However many texts with a fault were told ahead of it. */
    private static void behindManyFaults() {
        Counted x = new Counted();
        x.place(50);
        for (int i = 0; i < 20; i++) {
            Check.due("faulty", Check.law(x, "rent 1" + "+1".repeat(59) + ";"), -2 - (1 + 8 * 125));
        }
        Check.due("law", Check.law(x, "rent 1" + "+1".repeat(58) + "+heat"), 0);
        x.booth(0, 3, 0);
        Check.due("RENT", x.rent(0, 0, 0, 0), 74);
    }

    /** A text with a fault is no LAW, and leaves nothing to the next one. */
    private static void behindFaults() {
        String[] faulty = {"rent 5;", "tire 2 1;", "tire 0 1;rent 6 if 1=1;rent", "weak 0 900;weak 1 800;weak 2 700;",
            "rent 1" + "+1".repeat(60), "dark " + "[".repeat(11), "age 0 1;".repeat(14), "dark 1=1;off 1=1;refuse 1=1;]",
            "age 0 0;age 0 0;age 0 0;age 0 0;age 0 0;dark 1=1;]", "age 0 0;age 0 0;age 0 0;age 0 0;age 0 0;tire 0 9;]"};
        for (String text : faulty) {
            Counted x = new Counted();
            x.place(50);
            Check.due("faulty: " + text, Check.law(x, text) < -2, true);
            Check.due("behind " + text, Check.law(x, "rent 7;tire 1 4;tire 1 5;weak 2 999;weak 1 0"), 0);
            Check.due("faulty: " + text, Check.law(x, text) < -2, true);
            Check.due("behind " + text, Check.law(x, "rent 1" + "+1".repeat(59)), 1);
            x.booth(0, 3, 0);
            x.paper(0, 5);
            Check.due("no strip is SPOILT behind " + text, x.strip(0, 1, 1), 0);
            Check.due("BATH 0 behind " + text, x.of(0, 0), 1000);
            Check.due("BATH 1 behind " + text, x.of(0, 1), 996);
            Check.due("BATH 2 behind " + text, x.of(0, 2), 1000);
            x.clock(1);
            Check.due("no age behind " + text, x.of(0, 0), 1000);
            Check.due("RENT behind " + text, x.rent(0, 0, 0, 0), 7);
            Check.due("RENT of 60 VALUES behind " + text, x.rent(1, 0, 0, 0), 60);
            Check.due("none is REFUSED behind " + text, x.refused(0, 0), 0);
            Check.due("faulty: " + text, Check.law(x, text) < -2, true);
            Check.due("behind " + text, Check.law(x, "dark head=1;off head=2"), 2);
            Check.due("dark behind " + text, x.again(0, 2, 4), 1);
            Check.due("LAWS behind " + text, x.count(2), 3);
        }
    }
}
