/** For each promise of the document: ordinary calls, the edges that it names, wrong arguments. */
public final class PromisesTest {
    private static final int NONE = -1, BAD = -2, STATE = -3, FULL = -4;
    private static final int NOTHING = -11, OUTSIDE = -12, OTHER = -13, BELOW = -14, NO_SUCH = -100;
    private static int wrong = 0;
    private static int asked = 0;

    private static void due(int promise, String what, long got, long want) {
        asked++;
        if (got != want) {
            wrong++;
            System.out.println("promise " + promise + ": " + what + " answered " + got + ", due is " + want);
        }
    }

    private static ThreeAddresses fresh() {
        return new ThreeAddresses();
    }

    private static void feedAll(ThreeAddresses x, String text) {
        for (int i = 0; i < text.length(); i++) {
            x.feed(text.charAt(i));
        }
    }

    private static int read(ThreeAddresses x, String text) {
        feedAll(x, text);
        return x.text();
    }

    /** A fresh object's answer to a text. */
    private static int readNew(String text) {
        return read(fresh(), text);
    }

    /** What an expression tells as costs of order 0 (NUMBER 3, FROM 6 TO 1, FIRST 20, LAST 45), 0 .. 99. */
    private static int costing(String e) {
        ThreeAddresses x = fresh();
        x.order(3, 61, 2045);
        int t = read(x, "takes 1;costs " + e + ";minds 1;");
        if (t != 1) {
            return t;
        }
        x.force(1);
        return x.sends(0, 0, 2);
    }

    public static void main(String[] args) {
        promise1();
        promise2();
        promise3();
        promise4();
        promise5();
        promise6();
        promise7();
        promise8();
        promise9Faults();
        promise9Depth();
        promise9Values();
        promise9Room();
        promise10();
        promise11();
        promise11Edges();
        promise12();
        promise13();
        promise14();
        promise15();
        promise16();
        promise16Long();
        promise17();
        promise18And19();
        promise20And21();
        promise22();
        promise23And24();
        promise25();
        promise26();
        promise27();
        System.out.println("promises: " + asked + " answers, " + wrong + " wrong");
        if (wrong != 0) {
            System.exit(1);
        }
    }

    private static void promise1() {
        ThreeAddresses x = fresh();
        int[] want = {0, 0, 9, 1, 0, 0};
        for (int i = 0; i < want.length; i++) {
            due(1, "count(" + i + ")", x.count(i), want[i]);
        }
        due(1, "lives(99)", x.lives(99), 0);
        due(1, "back()", x.back(), STATE);
        for (int i = 0; i < 4; i++) {
            due(1, "cell of a missing sheet", x.cell(i, 0, 0), NOTHING);
        }
    }

    private static void promise2() {
        ThreeAddresses x = fresh();
        due(2, "move(-1, 0)", x.move(-1, 0), BAD);
        due(2, "move(0, -1)", x.move(0, -1), BAD);
        due(2, "move(100, 0)", x.move(100, 0), BAD);
        due(2, "move(0, 8)", x.move(0, 8), BAD);
        due(2, "move(0, 7)", x.move(0, 7), 1);
        due(2, "move(0, 1)", x.move(0, 1), STATE);
        due(2, "move(0, 8) again", x.move(0, 8), BAD);
        for (int n = 2; n <= 6; n++) {
            due(2, "move " + n, x.move(n, n), n);
        }
        due(2, "move(99, 0)", x.move(99, 0), FULL);
        due(2, "move(6, 0)", x.move(6, 0), STATE);
        due(2, "move(99, 8)", x.move(99, 8), BAD);
        due(2, "count(1)", x.count(1), 6);
        due(2, "lives(99)", x.lives(99), 6);
    }

    private static void promise3() {
        ThreeAddresses x = fresh();
        int[][] bad = {
            {-1, 1, 99}, {60, 1, 99}, {-10, 1, 99}, {0, -1, 99}, {0, 0, 99}, {0, 77, 99}, {0, 8, 99}, {0, 9, 99},
            {0, 80, 99}, {0, 100, 99}, {0, 1, -1}, {0, 1, 10000}, {0, 1, 100}, {0, 1, 9998},
            {Integer.MIN_VALUE, 1, 99}, {0, Integer.MAX_VALUE, 99}, {0, 1, Integer.MIN_VALUE},
        };
        for (int[] b : bad) {
            due(3, "order(" + b[0] + ", " + b[1] + ", " + b[2] + ")", x.order(b[0], b[1], b[2]), BAD);
        }
        due(3, "count(0)", x.count(0), 0);
        due(3, "order(59, 70, 9999)", x.order(59, 70, 9999), 0);
        due(3, "order(0, 7, 0)", x.order(0, 7, 0), 1);
        for (int i = 2; i < 8; i++) {
            due(3, "order " + i, x.order(i, 12, 99), i);
        }
        due(3, "a ninth", x.order(0, 1, 99), FULL);
        due(3, "a ninth that is bad", x.order(0, 0, 99), BAD);
        int[] want = {9, 9, 7, 0, 99, 99, 0, 5};
        for (int what = 1; what <= 7; what++) {
            if (what != 6) {
                due(3, "told(0, " + what + ")", x.told(0, what), want[what]);
            }
        }
    }

    private static void promise4() {
        ThreeAddresses x = fresh();
        x.order(13, 24, 3040);
        x.move(50, 5);
        due(4, "thick, of a strange one", x.set(0, -77, 1), 9);
        due(4, "thick 20", x.set(0, 0, 20), 1);
        due(4, "thick 21", x.set(0, 0, 21), NO_SUCH);
        due(4, "thick 0", x.set(0, 0, 0), NO_SUCH);
        due(4, "number 9", x.set(1, 0, 9), 3);
        due(4, "number 0", x.set(1, 0, 0), 9);
        due(4, "number 9 again", x.set(1, 0, 9), 0);
        due(4, "first 0", x.set(4, 0, 0), 30);
        due(4, "first 30 again", x.set(4, 0, 30), 0);
        due(4, "number 10", x.set(1, 0, 10), NO_SUCH);
        due(4, "number -1", x.set(1, 0, -1), NO_SUCH);
        due(4, "from as to", x.set(2, 0, 4), NO_SUCH);
        due(4, "from 7", x.set(2, 0, 7), 2);
        due(4, "from 8", x.set(2, 0, 8), NO_SUCH);
        due(4, "to as from", x.set(3, 0, 7), NO_SUCH);
        due(4, "to 0", x.set(3, 0, 0), 4);
        due(4, "to -1", x.set(3, 0, -1), NO_SUCH);
        due(4, "first 41", x.set(4, 0, 41), NO_SUCH);
        due(4, "first 40", x.set(4, 0, 40), 30);
        due(4, "first -1", x.set(4, 0, -1), NO_SUCH);
        due(4, "last 39", x.set(5, 0, 39), NO_SUCH);
        due(4, "last 99", x.set(5, 0, 99), 40);
        due(4, "last 100", x.set(5, 0, 100), NO_SUCH);
        due(4, "a move's house", x.set(6, 0, 7), 5);
        due(4, "it counts", x.lives(50), 7);
        due(4, "a move's house 8", x.set(6, 0, 8), NO_SUCH);
        due(4, "no such move", x.set(6, 1, 0), NO_SUCH);
        due(4, "no such order", x.set(1, 1, 0), NO_SUCH);
        due(4, "no such order below", x.set(1, -1, 0), NO_SUCH);
        due(4, "kind", x.set(7, 0, 0), NO_SUCH);
        due(4, "a move's day", x.set(8, 0, 0), NO_SUCH);
        due(4, "what -1", x.set(-1, 0, 1), NO_SUCH);
        int[] want = {20, 9, 7, 0, 40, 99, 7, 1, 50};
        for (int what = 0; what <= 8; what++) {
            due(4, "told(0, " + what + ")", x.told(0, what), want[what]);
        }
        // What was set is what letters go by.
        due(4, "a letter by the order as it is now", x.letter(7, 20, 11), 0);
        due(4, "it lies till 40, is 11 days under way, and he is gone", x.letter(7, 20, 0), 2);
        due(4, "he has it if he stays", x.set(6, 0, 0) + x.letter(7, 20, 1), 7 + 51);
        due(4, "from the former house none is sent", x.letter(2, 35, 0), 2);
    }

    private static void promise5() {
        ThreeAddresses x = fresh();
        due(5, "thick", x.told(99, 0), 9);
        due(5, "no order", x.told(0, 1), NO_SUCH);
        due(5, "no move", x.told(0, 6), NO_SUCH);
        due(5, "no move's day", x.told(0, 8), NO_SUCH);
        x.move(12, 3);
        x.order(47, 35, 1122);
        int[] want = {9, 7, 3, 5, 11, 22, 3, 4, 12};
        for (int what = 0; what <= 8; what++) {
            due(5, "told(0, " + what + ")", x.told(0, what), want[what]);
        }
        due(5, "what 9", x.told(0, 9), NO_SUCH);
        due(5, "what -1", x.told(0, -1), NO_SUCH);
        due(5, "order -1", x.told(-1, 7), NO_SUCH);
        due(5, "move -1", x.told(-1, 8), NO_SUCH);
    }

    private static void promise6() {
        ThreeAddresses x = fresh();
        x.move(0, 4);
        x.move(1, 4);
        x.move(98, 2);
        x.move(99, 0);
        int[][] want = {{0, 4}, {1, 4}, {97, 4}, {98, 2}, {99, 0}, {-1, BAD}, {100, BAD}, {Integer.MIN_VALUE, BAD}};
        for (int[] w : want) {
            due(6, "lives(" + w[0] + ")", x.lives(w[0]), w[1]);
        }
    }

    private static void promise7() {
        ThreeAddresses x = fresh();
        x.order(0, 1, 1020);
        x.order(13, 1, 1020);
        x.order(22, 1, 1020);
        x.order(33, 1, 1020);
        x.order(42, 1, 1020);
        x.order(55, 1, 1020);
        x.order(20, 1, 1020);
        x.order(40, 1, 1020);
        int[] days = {0, 9, 10, 11, 12, 18, 20, 21, 22, 23, 99};
        String[] want = {
            "00111110000", "00111110000", "00001100000", "00011110000", "00001101100", "00111111111",
            "00111110000", "00111110000",
        };
        for (int i = 0; i < 8; i++) {
            for (int d = 0; d < days.length; d++) {
                due(7, "sends(" + i + ", " + days[d] + ", 0)", x.sends(i, days[d], 0), want[i].charAt(d) - '0');
            }
        }
        int[] lasts = {2, 5, 2, 10, 3, 2, 2, 3};
        for (int i = 0; i < 8; i++) {
            due(7, "sends(" + i + ", 0, 1)", x.sends(i, 0, 1), lasts[i]);
            due(7, "costs", x.sends(i, 0, 2), 15);
            due(7, "costs, the day does not matter", x.sends(i, 1000, 2), 15);
        }
        due(7, "no such order", x.sends(8, 0, 2), BAD);
        due(7, "order -1", x.sends(-1, 0, 0), BAD);
        due(7, "day -1", x.sends(0, -1, 0), BAD);
        due(7, "day 100", x.sends(0, 100, 1), BAD);
        due(7, "what 3", x.sends(0, 0, 3), BAD);
        due(7, "what -1", x.sends(0, 0, -1), BAD);
        // Bounds of takes and costs, and what the names tell.
        due(7, "rule", read(x, "takes day*2-50;costs 1000*(0<long)-2000*order;minds 0;"), 1);
        x.force(1);
        due(7, "takes below 1", x.sends(0, 3, 1), 1);
        due(7, "takes within", x.sends(0, 30, 1), 10);
        due(7, "takes above 40", x.sends(0, 99, 1), 40);
        due(7, "by ship above 40", x.sends(3, 99, 1), 86);
        due(7, "costs above 99", x.sends(0, 0, 2), 99);
        due(7, "costs below 0", x.sends(1, 0, 2), 0);
        due(7, "rule 2", read(x, "takes 1+stamps*10+long*10+house+order+number;costs 1;minds 0;"), 2);
        x.force(2);
        x.set(2, 5, 4);
        due(7, "house, order, number; no stamps, just written", x.sends(5, 50, 1), 15);
    }

    private static void promise8() {
        ThreeAddresses x = fresh();
        due(8, "feed(-1)", x.feed(-1), BAD);
        due(8, "feed(256)", x.feed(256), BAD);
        for (int n = 1; n <= 160; n++) {
            due(8, "feed " + n, x.feed(n % 2 == 0 ? 0 : 255), n);
        }
        due(8, "one more", x.feed(32), FULL);
        due(8, "one more, bad", x.feed(256), BAD);
        due(8, "count(4)", x.count(4), 160);
        due(8, "text()", x.text(), -100);
        due(8, "count(4) then", x.count(4), 0);
        due(8, "feed", x.feed(32), 1);
    }

    private static void promise9Faults() {
        due(9, "plain", readNew("takes 2 ; costs 5 + long ; minds 10 ;"), 1);
        due(9, "thin", readNew("takes2;costs5+long;minds10;"), 1);
        due(9, "blanks", readNew("\n takes\n2 ; costs(5) ;minds-1;\n "), 1);
        due(9, "empty", readNew(""), -100);
        due(9, "blank", readNew("  \n"), -103);
        due(9, "ends behind a key", readNew("takes"), -105);
        due(9, "ends behind a number", readNew("takes 2"), -107);
        due(9, "ends behind a blank", readNew("takes 2 "), -108);
        due(9, "ends behind a sign", readNew("takes 2 + "), -110);
        due(9, "ends in a (", readNew("takes (2"), -108);
        due(9, "ends ahead of costs", readNew("takes 2;"), -108);
        due(9, "ends ahead of the last ;", readNew("takes 2;costs 2;minds 3"), -123);
        due(9, "more behind it", readNew("takes 2;costs 2;minds 3; 5"), -125);
        due(9, "a key behind it", readNew("takes 2;costs 2;minds 3;takes"), -124);
        due(9, "a ; behind it", readNew("takes 2;costs 2;minds 3;;"), -124);
        due(9, "another order", readNew("costs 2;takes 2;minds 3;"), -100);
        due(9, "takes twice", readNew("takes 2;takes 2;minds 3;"), -108);
        due(9, "a large letter", readNew("takes Day;"), -106);
        due(9, "a word of none", readNew("takes days;"), -106);
        due(9, "words together", readNew("takesday;"), -100);
        due(9, "a key in it", readNew("takes costs;"), -106);
        due(9, "or at first", readNew("takes or 1;"), -106);
        due(9, "a number too long", readNew("takes 1+12345;"), -108);
        due(9, "a number with noughts", readNew("takes 00001;"), -106);
        due(9, "a number of four", readNew("takes 0001;costs 9999;minds 0;"), 1);
        due(9, "a number cut by a blank", readNew("takes 12 34;"), -109);
        due(9, "two values", readNew("takes 2day;"), -107);
        due(9, "a value behind )", readNew("takes (2)3;"), -109);
        due(9, "two comparisons", readNew("takes 1 < 2 < 3 ;"), -112);
        due(9, "two likes", readNew("takes 1 = 2 = 3 ;"), -112);
        due(9, "a comparison in ( )", readNew("takes (1<2)<3;costs (1=1)=(1=0);minds 0;"), 1);
        due(9, "not in a sum", readNew("takes 1 + not 2 ;"), -110);
        due(9, "not behind <", readNew("takes 1 < not 2 ;"), -110);
        due(9, "not behind -", readNew("takes - not 2 ;"), -108);
        due(9, "not behind a value", readNew("takes 1 not 2 ;"), -108);
        due(9, "not behind not, and, or", readNew("takes not not 1 and not 2 or not 3;costs 1;minds 1;"), 1);
        due(9, "plus ahead of a value", readNew("takes +1;"), -106);
        due(9, "two *", readNew("takes 1**2;"), -108);
        due(9, "* -", readNew("takes 1*-2;costs 1;minds 1;"), 1);
        due(9, "a ) of none", readNew("takes 1);"), -107);
        due(9, "an empty ( )", readNew("takes ();"), -107);
        due(9, "a ; in ( )", readNew("takes (1;"), -108);
        due(9, "a byte of none", readNew("takes 1\t;"), -107);
        due(9, "a byte of none behind a fault", readNew("takes ; \t"), -106);
        due(9, "byte 255", readNew("takes " + (char) 255), -106);
        due(9, "byte 0", readNew((char) 0 + "takes 1;"), -100);
        due(9, "return is no blank", readNew("takes\r1;"), -105);
        due(9, "greater", readNew("takes 1>2;"), -107);
    }

    private static void promise9Depth() {
        String rest = ";costs 1;minds 1;";
        due(9, "5 (", readNew("takes (((((1)))))" + rest), 1);
        due(9, "6 (", readNew("takes ((((((1"), -111);
        due(9, "5 not", readNew("takes not not not not not 1" + rest), 1);
        due(9, "6 not", readNew("takes not not not not not not 1"), -126);
        due(9, "5 -", readNew("takes -----1" + rest), 1);
        due(9, "6 -", readNew("takes ------1"), -111);
        due(9, "- between and 5 ahead", readNew("takes 1------1" + rest), 1);
        due(9, "- between and 6 ahead", readNew("takes 1-------1"), -113);
        due(9, "mixed, 5", readNew("takes not -(-(1))" + rest), 1);
        due(9, "mixed, 6th a (", readNew("takes not -(-((1))"), -114);
        due(9, "mixed, 6th a -", readNew("takes not -(-(-1))"), -114);
        due(9, "mixed, 6th a not", readNew("takes not -(-(not 1))"), -114);
        due(9, "those that ended", readNew("takes (((((1)))))+-----1*-----1<----(1)" + rest), 1);
        due(9, "not ends with its NOT", readNew("takes not not not not not 1 and not not not not not 2" + rest), 1);
        due(9, "not is open on the right of <", readNew("takes not not not not not 1<(1)"), -128);
        due(9, "- ends with its ONE", readNew("takes not not not not -1+(1)" + rest), 1);
        due(9, "a ( is open till its )", readNew("takes (((((1+-1"), -113);
        due(9, "- is open till the ) of its ONE", readNew("takes -(((1+((1"), -113);
        due(9, "ends at the deepest", readNew("takes (((((1"), -112);
    }

    private static void promise9Values() {
        String[] texts = {
            "2+3*4", "(2+3)*4", "10-3-2", "10-(3-2)", "2*3+4*5", "-2*-3", "2--3", "- -7", "1<2", "2<1", "2<2", "2=2", "2=3",
            "0-5<0-4", "not 0", "not 7", "not 1<2", "not 2<1", "not 3=3", "not not 5", "7", "1 or 0 and 0", "0 or 0", "0 or 9",
            "5 and 6", "5 and 0", "(1 or 0) and 0", "not 0 and 0", "not (0 and 0)", "3+(1<2)*10", "1+2<2+2",
            "day", "house", "stamps", "number", "order", "long", "day+long", "house*number",
            "0-1", "100", "99", "0<-1", "5 or 0", "0 and 5", "8*(0<1 and 1<0 or 1)",
        };
        int[] want = {
            14, 20, 5, 9, 26, 6, 5, 7, 1, 0, 0, 1, 0,
            1, 1, 0, 0, 1, 0, 1, 7, 1, 0, 1,
            1, 0, 0, 0, 1, 13, 1,
            20, 6, 0, 3, 0, 25, 45, 18,
            0, 99, 99, 0, 1, 0, 8,
        };
        for (int i = 0; i < texts.length; i++) {
            due(9, texts[i], costing(texts[i]), want[i]);
        }
        due(9, "wraps to 0", costing("256*256*256*256+3"), 3);
        due(9, "wraps below 0", costing("9999*9999*9999*9<0"), 9999 * 9999 * 9999 * 9 < 0 ? 1 : 0);
        due(9, "wraps at 2 to 31", costing("0-256*256*256*128<0"), 1);
        due(9, "the least less 1", costing("0<0-256*256*256*128-1"), 1);
    }

    private static void promise9Room() {
        ThreeAddresses x = fresh();
        String good = "takes 3;costs 4;minds 5;";
        for (int t = 1; t <= 5; t++) {
            due(9, "a fault takes no room", read(x, "takes"), -105);
            due(9, "count(4) behind a fault", x.count(4), 0);
            due(9, "text " + t, read(x, good), t);
            due(9, "count(4)", x.count(4), 0);
            due(9, "count(3)", x.count(3), t + 1);
        }
        due(9, "a seventh", read(x, good), FULL);
        due(9, "the tape stays", x.count(4), good.length());
        due(9, "the seventh again", x.text(), FULL);
        due(9, "no text came", x.count(3), 6);
        // A text of 160 bytes.
        StringBuilder longest = new StringBuilder("takes 1");
        while (longest.length() < 160 - 17) {
            longest.append("+1");
        }
        longest.append(";costs 1;minds 1;");
        ThreeAddresses y = fresh();
        feedAll(y, longest.toString());
        due(9, "160 bytes", y.count(4), 160);
        due(9, "text of 160 bytes", y.text(), 1);
        y.force(1);
        y.order(0, 1, 99);
        due(9, "its takes", y.sends(0, 0, 1), 40);
    }

    private static void promise10() {
        ThreeAddresses x = fresh();
        x.order(0, 10, 99);
        due(10, "force(1)", x.force(1), BAD);
        due(10, "force(-1)", x.force(-1), BAD);
        due(10, "force(0)", x.force(0), 0);
        read(x, "takes 7;costs 4;minds 5;");
        due(10, "rule as it was", x.sends(0, 0, 1), 2);
        due(10, "force(1) then", x.force(1), 0);
        due(10, "rule 1", x.sends(0, 0, 1), 7);
        due(10, "count(5)", x.count(5), 1);
        due(10, "force(2)", x.force(2), BAD);
        due(10, "force(0) again", x.force(0), 1);
        due(10, "rule 0", x.sends(0, 0, 2), 99);
    }

    private static void promise11() {
        ThreeAddresses x = fresh();
        x.move(30, 1);
        x.move(60, 2);
        x.order(0, 1, 3050);
        x.order(15, 12, 6099);
        // He lives there still.
        letter(x, 0, 29, new int[] {0, 29, 0, 0, 0}, 0);
        letter(x, 0, 30, new int[] {0, 32, 1, 1, 2}, 0, 1);
        // It lies till he comes.
        letter(x, 2, 10, new int[] {0, 60, 2, 0, 50}, 2);
        letter(x, 1, 29, new int[] {0, 30, 1, 0, 1}, 1);
        letter(x, 1, 93, new int[] {0, 100, 2, 1, 7}, 1, 2);
        letter(x, 1, 99, new int[] {0, 106, 2, 1, 7}, 1, 2);
        // Behind the last day of the order.
        letter(x, 0, 51, new int[] {2, 99, 0, 0, 48}, 0);
        int[][] bad = {{-1, 0, 0}, {8, 0, 0}, {0, -1, 0}, {0, 100, 0}, {0, 0, -1}, {0, 0, 5}, {0, 0, 9}, {0, 0, 30}};
        for (int[] b : bad) {
            due(11, "letter(" + b[0] + ", " + b[1] + ", " + b[2] + ")", x.letter(b[0], b[1], b[2]), BAD);
        }
    }

    private static void letter(ThreeAddresses x, int house, int day, int[] ends, int... houses) {
        String call = "letter(" + house + ", " + day + ", ";
        for (int what = 0; what < 5; what++) {
            due(11, call + what + ")", x.letter(house, day, what), ends[what]);
        }
        for (int i = 0; i < 20; i++) {
            due(11, call + (10 + i) + ")", x.letter(house, day, 10 + i), i < houses.length ? houses[i] : NONE);
        }
    }

    private static void promise11Edges() {
        // The first order of those that send, and the first again on another day.
        ThreeAddresses x = fresh();
        x.move(0, 7);
        x.order(21, 12, 99);
        x.order(0, 13, 99);
        letter(x, 1, 4, new int[] {2, 99, 2, 1, 95}, 1, 2);
        letter(x, 1, 5, new int[] {2, 99, 3, 1, 94}, 1, 3);
        // BACK: too thick is seen behind whether he lives there, ahead of the next order.
        ThreeAddresses y = fresh();
        y.move(0, 3);
        y.order(0, 12, 99);
        y.order(0, 24, 99);
        y.order(0, 43, 99);
        y.set(0, 0, 2);
        letter(y, 1, 0, new int[] {0, 6, 3, 3, 6}, 1, 2, 4, 3);
        y.set(0, 0, 1);
        letter(y, 1, 0, new int[] {1, 4, 4, 2, 4}, 1, 2, 4);
        // BACK on a day above 99, where he lives elsewhere.
        letter(y, 1, 99, new int[] {1, 101, 2, 1, 2}, 1, 2);
        letter(y, 4, 99, new int[] {0, 101, 3, 1, 2}, 4, 3);
        letter(y, 4, 98, new int[] {0, 100, 3, 1, 2}, 4, 3);
        // Too thick though he would come later, and though it came on no order's day.
        ThreeAddresses z = fresh();
        z.move(0, 7);
        z.move(50, 2);
        z.order(0, 10, 10);
        z.order(0, 2, 10);
        z.set(0, 0, 1);
        letter(z, 1, 0, new int[] {1, 4, 2, 2, 4}, 1, 0, 2);
        z.set(0, 0, 2);
        letter(z, 1, 0, new int[] {0, 50, 2, 2, 50}, 1, 0, 2);
        // takes by stamps and days under way: 1 + 0 + 3 (it lay three days), then 1 + 10 + 3 + 4.
        ThreeAddresses w = fresh();
        w.move(0, 7);
        w.order(0, 12, 399);
        w.order(0, 27, 99);
        due(11, "rule", read(w, "takes 1+stamps*10+long;costs 0;minds 0;"), 1);
        w.force(1);
        letter(w, 1, 0, new int[] {0, 25, 7, 2, 25}, 1, 2, 7);
        letter(w, 1, 3, new int[] {0, 16, 7, 2, 13}, 1, 2, 7);
    }

    private static void promise12() {
        ThreeAddresses x = fresh();
        x.move(20, 1);
        x.move(50, 2);
        // Slow till day 29, quick from then on: those behind overtake.
        x.order(19, 1, 2029);
        x.order(0, 1, 3045);
        due(12, "rule", read(x, "takes 1;costs 1;minds 1+stamps*100+(day=48)*1000-(day=47)*50+house;"), 1);
        x.force(1);
        // Days 0 .. 19 at once; 20 .. 29 come 10 later; 30 .. 45 come 1 later; from 46 on lost.
        due(12, "how many", x.reaches(0, 0), 46);
        due(12, "last", x.reaches(0, 1), 45);
        due(12, "grief", x.reaches(0, 2), 52 + 999);
        due(12, "longest", x.reaches(0, 3), 10);
        // Written on 22 .. 29 it comes on 32 .. 39; that of 30 comes on 31.
        due(12, "overtaken", x.reaches(0, 4), 8);
        due(12, "round", x.reaches(0, 5), NONE);
        due(12, "none: how many", x.reaches(5, 0), 0);
        due(12, "none: last", x.reaches(5, 1), NONE);
        due(12, "none: grief", x.reaches(5, 2), 98 * 6 + 999 + 0);
        due(12, "none: longest", x.reaches(5, 3), NONE);
        due(12, "none: overtaken", x.reaches(5, 4), 0);
        ThreeAddresses y = fresh();
        y.move(0, 7);
        y.order(0, 12, 5099);
        y.order(0, 21, 99);
        // From 48 on it still leaves house 1 by day 50; one of day 0 in house 1 lies there till 50, too.
        due(12, "round of those that lie", y.reaches(1, 5), 0);
        due(12, "round from house 2", y.reaches(2, 5), 0);
        y.set(4, 0, 98);
        // 1 to 2 on 98, there on 100: BACK; 1 to 2 to 1 is never reached.
        due(12, "no round", y.reaches(1, 5), NONE);
        y.set(4, 0, 40);
        y.set(5, 0, 41);
        // By order 0 twice it is only with stamps on 40 .. 41: it comes back too late.
        due(12, "no round in a short time", y.reaches(1, 5), NONE);
        // Day 0 counts as any other: he has that of day 0 alone.
        ThreeAddresses z = fresh();
        z.move(1, 7);
        int[] first = {1, 0, 990, 0, 0, NONE};
        for (int what = 0; what < 6; what++) {
            due(12, "day 0 alone, " + what, z.reaches(0, what), first[what]);
        }
        // That of day 0 is 11 days under way, that of day 1 is there sooner; that of day 2 is the last.
        z.order(19, 37, 0);
        z.order(0, 37, 102);
        int[] slow = {3, 2, 970, 11, 1, NONE};
        for (int what = 0; what < 6; what++) {
            due(12, "day 0 overtaken, " + what, z.reaches(3, what), slow[what]);
        }
        due(12, "house 8", y.reaches(8, 0), BAD);
        due(12, "house -1", y.reaches(-1, 0), BAD);
        due(12, "what 6", y.reaches(0, 6), BAD);
        due(12, "what -1", y.reaches(0, -1), BAD);
    }

    private static void promise13() {
        ThreeAddresses x = fresh();
        x.move(0, 3);
        x.order(0, 12, 99);
        x.order(0, 23, 99);
        x.order(0, 13, 1020);
        x.order(0, 13, 90);
        // 1 to 2 to 3 is enough but for the last days: the direct one is behind it.
        due(13, "now", x.reaches(1, 0), 98);
        due(13, "needless", x.needless(1, 0), 12);
        // costs 104 -> 99 each for 0, 1; 15 for 2; 95 for 3. Without 0: 3 alone brings 0 .. 90, 91 of 98: too few.
        due(13, "enough", x.needless(1, 1), 3);
        due(13, "costs", x.needless(1, 2), 198);
        x.set(5, 3, 99);
        // Now the direct one (99) brings all 100, cheaper than both.
        due(13, "enough, one", x.needless(1, 1), 8);
        due(13, "costs of one", x.needless(1, 2), 99);
        due(13, "needless now", x.needless(1, 0), 15 - 2);
        due(13, "house 3", x.needless(3, 0), 15);
        due(13, "house 3: none", x.needless(3, 1), 0);
        due(13, "house 3: costs none", x.needless(3, 2), 0);
        read(x, "takes 1;costs 0;minds 1;");
        x.force(1);
        // All are free: the least as bits. takes 1: 99 of 100 by 0 and 1, 100 by 3.
        due(13, "free: now", x.reaches(1, 0), 99);
        due(13, "free: least bits", x.needless(1, 1), 3);
        due(13, "free: costs", x.needless(1, 2), 0);
        due(13, "house 8", x.needless(8, 1), BAD);
        due(13, "what 3", x.needless(0, 3), BAD);
        due(13, "what -1", x.needless(0, -1), BAD);
        // An order that serves that of day 0 alone.
        ThreeAddresses z = fresh();
        z.move(0, 7);
        z.order(0, 7, 0);
        due(13, "day 0 needs it", z.needless(0, 0), 0);
        due(13, "day 0: enough", z.needless(0, 1), 1);
        due(13, "day 0: costs", z.needless(0, 2), 5);
        // Orders keep their numbers where others are left out.
        ThreeAddresses y = fresh();
        y.move(0, 3);
        y.order(0, 13, 99);
        y.order(0, 13, 99);
        read(y, "takes 1;costs 10-order*4;minds 1;");
        y.force(1);
        due(13, "the second is cheaper", y.needless(1, 1), 2);
        due(13, "its costs", y.needless(1, 2), 6);
    }

    private static void promise14() {
        ThreeAddresses x = fresh();
        x.move(10, 1);
        due(14, "none needed", x.oneMore(1, 0, 0), NONE);
        due(14, "as now", x.oneMore(1, 0, 1), 100);
        due(14, "from day 0: he lives in 0 till 9", x.oneMore(0, 0, 0), 1);
        due(14, "how many", x.oneMore(0, 0, 1), 100);
        due(14, "from day 99 all wait", x.oneMore(0, 99, 1), 100);
        due(14, "house 5", x.oneMore(5, 40, 0), 51);
        x.order(0, 52, 99);
        // 5 to 2 comes first, so that 2 to 1 helps: written till 97 it is sent on by 99.
        due(14, "by another house", x.oneMore(5, 0, 0), 21);
        due(14, "how many by it", x.oneMore(5, 0, 1), 98);
        x.set(0, 0, 1);
        due(14, "by its number", read(x, "takes 1+(order=1)*39;costs 1;minds 1;"), 1);
        x.force(1);
        due(14, "40 days later", x.letter(2, 0, 1), 99);
        due(14, "still all but one", x.oneMore(5, 0, 1), 99);
        for (int i = 1; i < 8; i++) {
            x.order(0, 34, 0);
        }
        due(14, "full", x.oneMore(5, 0, 0), FULL);
        due(14, "full, bad", x.oneMore(5, 0, 2), BAD);
        due(14, "house 8", x.oneMore(8, 0, 0), BAD);
        due(14, "day -1", x.oneMore(0, -1, 0), BAD);
        due(14, "day 100", x.oneMore(0, 100, 0), BAD);
        due(14, "what -1", x.oneMore(0, 0, -1), BAD);
        // The order that was tried leaves nothing behind.
        ThreeAddresses y = fresh();
        y.move(0, 1);
        due(14, "tried", y.oneMore(0, 0, 0), 1);
        due(14, "count(0)", y.count(0), 0);
        due(14, "reaches", y.reaches(0, 0), 0);
        due(14, "an order elsewhere", y.order(0, 23, 99), 0);
        due(14, "reaches then", y.reaches(0, 0), 0);
    }

    private static void promise15() {
        ThreeAddresses x = fresh();
        x.move(0, 5);
        x.order(0, 12, 99);
        x.order(0, 23, 99);
        x.order(0, 34, 99);
        x.order(0, 45, 99);
        // Four stamps, seen only where he does not live: three are enough.
        due(15, "four orders", x.thicker(1), 3);
        due(15, "three", x.thicker(2), 2);
        due(15, "two", x.thicker(3), 1);
        due(15, "one", x.thicker(4), 1);
        due(15, "at home", x.thicker(5), 1);
        due(15, "never", x.thicker(0), 1);
        due(15, "thick stays", x.count(2), 9);
        // Twenty stamps round and round till the ways out of it are open.
        ThreeAddresses y = fresh();
        y.move(0, 5);
        y.order(0, 15, 3899);
        y.order(0, 12, 99);
        y.order(0, 21, 99);
        due(15, "rounds", y.thicker(1), 20);
        y.set(4, 0, 39);
        due(15, "rounds, one more", y.thicker(1), 20);
        due(15, "house 8", y.thicker(8), BAD);
        due(15, "house -1", y.thicker(-1), BAD);
        due(15, "thick stays there", y.count(2), 9);
    }

    private static void promise16() {
        ThreeAddresses x = fresh();
        x.move(20, 2);
        x.order(22, 1, 1090);
        x.order(0, 12, 3040);
        x.order(0, 3, 99);
        due(16, "sheet 4", x.covers(4, 0), BAD);
        due(16, "sheet -1", x.covers(-1, 0), BAD);
        due(16, "what 4, missing", x.covers(0, 4), BAD);
        due(16, "what 9, missing", x.covers(0, 9), BAD);
        due(16, "what -1, missing", x.covers(0, -1), BAD);
        due(16, "order 3, missing", x.covers(0, 13), BAD);
        due(16, "missing", x.covers(0, 0), NOTHING);
        x.sheet(0, 2, 0);
        due(16, "tells none", x.covers(0, 0), BAD);
        x.sheet(0, 2, 21);
        due(16, "tells above 20", x.covers(0, 0), BAD);
        x.sheet(0, 2, 3);
        x.cell(0, 1, 8);
        due(16, "tells 8", x.covers(0, 0), BAD);
        x.cell(0, 1, -1);
        due(16, "tells -1", x.covers(0, 0), BAD);
        x.cell(0, 1, 1);
        x.cell(0, 2, 2);
        // 0 to 1 on days of which 3 is a divisor (21, 24 .. ), else 0 to 3 by order 2.
        // In house 1 on day 23 .. 41 it leaves for 2 on 30 .. 40: written on 21, 24, .. 36 (38); 39 is there on 41.
        due(16, "days", x.covers(0, 0), 6);
        due(16, "first", x.covers(0, 1), 21);
        due(16, "orders", x.covers(0, 2), 3);
        due(16, "texts", x.covers(0, 3), 1);
        due(16, "kinds of order 0", x.covers(0, 10), 63);
        // Whatever kind order 1 is, day 30 or a later one till 40 serves.
        due(16, "kinds of order 1", x.covers(0, 11), 63);
        due(16, "kinds of order 2", x.covers(0, 12), 63);
        x.set(4, 1, 40);
        // By ship it never goes: not on the first day, which is the last.
        due(16, "kinds of order 1 on one day", x.covers(0, 11), 63 - 8);
        x.set(4, 1, 41 - 2);
        x.set(5, 1, 39);
        due(16, "NUMBER 0, any day is a turn", x.covers(0, 11), 63 - 8);
        x.set(1, 1, 1);
        // 39 is odd: as NOW AND THEN it never goes; KIND ONE goes on day 40 (39 and 1).
        due(16, "NUMBER 1", x.covers(0, 11), 63 - 8 - 4);
        due(16, "kind is as it was", x.told(1, 7), 0);
        due(16, "days by it as it was", x.covers(0, 0), 6);
        due(16, "rule 1", read(x, "takes 40;costs 1;minds 1;"), 1);
        due(16, "rule 2", read(x, "takes 18;costs 1;minds 1;"), 2);
        // By 18 days: written on 21 it is there on 39.
        due(16, "texts of three", x.covers(0, 3), 5);
        due(16, "rule as it was", x.count(5), 0);
        // In the first house alone till its end.
        x.sheet(1, 0, 1);
        due(16, "had at once", x.covers(1, 0), 20);
        due(16, "by no order", x.covers(1, 2), 0);
        // A part of the way is not all of it.
        x.sheet(2, 1, 2);
        x.cell(2, 1, 1);
        due(16, "lost in 1, or back there", x.covers(2, 0), 18);
        due(16, "first of these", x.covers(2, 1), 39);
        x.cell(2, 1, 7);
        due(16, "never", x.covers(2, 0), 0);
        ThreeAddresses y = fresh();
        y.move(0, 7);
        y.order(0, 7, 0);
        y.film(0, 0, 0);
        int[] alone = {1, 0, 1, 1};
        for (int what = 0; what < 4; what++) {
            due(16, "day 0 alone, " + what, y.covers(0, what), alone[what]);
        }
        due(16, "day 0 alone, kinds: all but by ship", y.covers(0, 10), 63 - 8);
        due(16, "never: first", x.covers(2, 1), NONE);
        due(16, "never: orders", x.covers(2, 2), 0);
        due(16, "never: texts", x.covers(2, 3), 0);
        due(16, "never: kinds", x.covers(2, 10), 0);
    }

    private static void promise16Long() {
        ThreeAddresses x = fresh();
        x.move(0, 7);
        x.order(0, 12, 99);
        x.order(0, 21, 99);
        x.set(0, 0, 18);
        // With THICK 18 it is in 20 houses (19 stamps), with 20 in 22, of which a sheet tells 20.
        due(16, "film 20", x.film(0, 1, 0), 20);
        due(16, "just 20", x.covers(0, 1), 0);
        // It goes back with its 19th stamp, which it has by day 99 and 2: written till 63.
        due(16, "just 20: days", x.covers(0, 0), 64);
        x.set(0, 0, 20);
        due(17, "film of 22", x.film(0, 1, 0), 20);
        // Those of 20 houses are now those that end above day 99 with 19 stamps.
        due(16, "20 of 22 are not just these", x.covers(0, 1), 62);
        due(16, "days of just 20", x.covers(0, 0), 2);
    }

    private static void promise17() {
        ThreeAddresses x = fresh();
        x.move(0, 3);
        x.order(0, 12, 99);
        x.order(0, 23, 99);
        x.sheet(1, 2, 40);
        due(17, "film", x.film(1, 1, 0), 3);
        due(17, "it is of bytes", x.orders(1, 2, 0, 0), OTHER);
        due(17, "of bytes: 1, 2, 3 is an order, too", x.orders(1, 0, 0, 1), 1);
        due(17, "of three", x.cell(1, 2, 3), 1);
        due(17, "of no more", x.cell(1, 3, 3), OUTSIDE);
        due(17, "just these", x.covers(1, 0), 98);
        due(17, "one", x.film(0, 3, 99), 1);
        due(17, "sheet 4", x.film(4, 0, 0), BAD);
        due(17, "sheet -1", x.film(-1, 0, 0), BAD);
        due(17, "house 8", x.film(2, 8, 0), BAD);
        due(17, "day 100", x.film(2, 0, 100), BAD);
        due(17, "day -1", x.film(2, 0, -1), BAD);
        due(17, "it changed nothing", x.cell(2, 0, 0), NOTHING);
    }

    private static void promise18And19() {
        ThreeAddresses x = fresh();
        x.move(50, 1);
        int[] seeds = {0, 1, -1, 5, 77, Integer.MAX_VALUE, Integer.MIN_VALUE, 123456789};
        for (int seed : seeds) {
            due(18, "drawn(0, " + seed + ")", x.drawn(0, seed), below50(seed));
        }
        due(18, "all wait", x.drawn(1, 3), 10);
        due(18, "house 8", x.drawn(8, 0), BAD);
        due(18, "house -1", x.drawn(-1, 0), BAD);
        for (int seed : seeds) {
            for (int n = 1; n <= 20; n++) {
                int hits = 0;
                for (int i = 0; i < n; i++) {
                    hits += below50(seed + i) >= 5 ? 1 : 0;
                }
                int d = java.math.BigInteger.valueOf(hits).gcd(java.math.BigInteger.valueOf(n)).intValue();
                due(19, "above, " + seed + ", " + n, x.chance(0, seed, n, 5, 0), hits / d);
                due(19, "below, " + seed + ", " + n, x.chance(0, seed, n, 5, 1), n / d);
            }
        }
        due(19, "none: above", x.chance(5, 0, 20, 1, 0), 0);
        due(19, "none: below", x.chance(5, 0, 20, 1, 1), 1);
        due(19, "least 0", x.chance(5, 0, 20, 0, 0), 1);
        long no = -4611686018427387904L;
        long[] got = {
            x.chance(8, 0, 1, 0, 0), x.chance(-1, 0, 1, 0, 0), x.chance(0, 0, 0, 0, 0), x.chance(0, 0, 21, 0, 0),
            x.chance(0, 0, 1, -1, 0), x.chance(0, 0, 1, 11, 0), x.chance(0, 0, 1, 0, -1), x.chance(0, 0, 1, 0, 2),
        };
        for (long g : got) {
            due(19, "none such", g, no);
        }
    }

    private static int below50(int seed) {
        int z = seed;
        int count = 0;
        for (int i = 0; i < 10; i++) {
            z = z * 1103515245 + 12345;
            count += (z >>> 9) % 100 < 50 ? 1 : 0;
        }
        return count;
    }

    private static void promise20And21() {
        ThreeAddresses x = fresh();
        due(21, "none", x.back(), STATE);
        x.move(10, 1);
        x.order(23, 12, 3040);
        x.order(0, 1, 99);
        read(x, "takes 9;costs 8;minds 7;");
        x.force(1);
        x.set(0, 0, 4);
        due(20, "image", x.image(), 2);
        x.force(0);
        x.set(0, 0, 7);
        x.set(1, 0, 8);
        x.set(2, 0, 4);
        x.set(3, 0, 5);
        x.set(4, 0, 1);
        x.set(5, 0, 98);
        x.set(6, 0, 6);
        x.move(20, 2);
        x.order(33, 23, 99);
        x.feed('x');
        x.sheet(0, 1, 2);
        read(x, "");
        due(21, "a text that came since", read(x, "takes 9;costs 8;minds 7;"), 2);
        x.feed('x');
        for (int round = 0; round < 2; round++) {
            due(21, "back", x.back(), 2);
            int[] counts = {2, 1, 4, 3, 1, 1};
            for (int i = 0; i < counts.length; i++) {
                due(21, "count(" + i + ")", x.count(i), counts[i]);
            }
            int[] want = {4, 3, 1, 2, 30, 40, 1, 2, 10};
            for (int what = 0; what <= 8; what++) {
                due(21, "told(0, " + what + ")", x.told(0, what), want[what]);
            }
            due(21, "lives(25)", x.lives(25), 1);
            due(21, "a letter", x.letter(0, 15, 1), 24);
            due(21, "a letter in 4 is not sent on", x.letter(4, 15, 2), 4);
            due(21, "the sheet stays", x.cell(0, 1, 1), 1);
            // Another kind in the place of the one that went.
            due(21, "an order", x.order(56, 70, 5050), 2);
            due(21, "its kind", x.told(2, 7), 5);
            due(21, "it sends", x.letter(7, 0, 2), 1);
        }
        due(20, "another image", x.image(), 3);
        x.order(0, 1, 99);
        due(21, "back to that", x.back(), 3);
        due(21, "of kind", x.told(2, 7), 5);
    }

    private static void promise22() {
        ThreeAddresses x = fresh();
        due(22, "what 6", x.count(6), BAD);
        due(22, "what -1", x.count(-1), BAD);
        x.order(0, 1, 99);
        x.order(0, 1, 99);
        x.order(0, 1, 99);
        x.move(1, 1);
        x.move(2, 2);
        x.set(0, 0, 13);
        read(x, "takes 9;costs 8;minds 7;");
        x.force(1);
        x.feed(1);
        x.feed(1);
        x.feed(1);
        x.feed(1);
        int[] want = {3, 2, 13, 2, 4, 1};
        for (int i = 0; i < want.length; i++) {
            due(22, "count(" + i + ")", x.count(i), want[i]);
        }
    }

    private static void promise23And24() {
        ThreeAddresses x = fresh();
        due(23, "sheet 4", x.sheet(4, 0, 0), BAD);
        due(23, "sheet -1", x.sheet(-1, 0, 0), BAD);
        due(23, "sort 3", x.sheet(0, 3, 0), BAD);
        due(23, "sort -2", x.sheet(0, -2, 0), BAD);
        due(23, "n 41", x.sheet(0, 0, 41), BAD);
        due(23, "n -1", x.sheet(0, 0, -1), BELOW);
        due(23, "n -1, sort 3", x.sheet(0, 3, -1), BAD);
        due(23, "still missing", x.cell(0, 0, 0), NOTHING);
        due(23, "n 40", x.sheet(0, 2, 40), 1);
        due(24, "cell 39", x.cell(0, 39, 7), 1);
        due(24, "cell 40", x.cell(0, 40, 7), OUTSIDE);
        due(24, "cell -1", x.cell(0, -1, 7), OUTSIDE);
        due(24, "sheet 4", x.cell(4, 0, 7), BAD);
        due(24, "sheet -1", x.cell(-1, 0, 7), BAD);
        due(24, "missing, outside", x.cell(1, -1, 7), NOTHING);
        due(23, "missing, any n", x.sheet(0, -1, 1000), 1);
        due(23, "missing, n below", x.sheet(0, -1, -5), 1);
        due(23, "it is missing", x.cell(0, 0, 7), NOTHING);
        due(23, "empty", x.sheet(0, 0, 0), 1);
        due(24, "nothing in it", x.cell(0, 0, 7), OUTSIDE);
        // All 0 anew, though it held others.
        x.sheet(0, 2, 2);
        x.cell(0, 0, 7);
        x.cell(0, 1, 7);
        x.sheet(0, 2, 2);
        x.move(0, 1);
        due(23, "all 0", x.covers(0, 0), 0);
        due(23, "all 0, no order came of 0, 0, 0", x.sheet(0, 2, 3), 1);
        due(23, "none", x.orders(0, 2, 0, 1), 0);
        // The lowest 8, 16 bits.
        x.sheet(1, 0, 3);
        x.cell(1, 0, 256 + 50);
        x.cell(1, 1, 512 + 12);
        x.cell(1, 2, -256 + 99);
        due(24, "bytes", x.orders(1, 0, 0, 1), 1);
        due(24, "kind 5", x.told(0, 7), 5);
        due(24, "last", x.told(0, 5), 99);
        x.cell(1, 2, 199);
        due(24, "a byte above 127 is below 0", x.orders(1, 0, 0, 1), 0);
        x.sheet(2, 1, 3);
        x.cell(2, 0, 65536 + 41);
        x.cell(2, 1, -65536 + 12);
        x.cell(2, 2, 65536 * 3 + 9999);
        due(24, "shorts", x.orders(2, 1, 0, 1), 1);
        due(24, "first", x.told(1, 4), 99);
        x.sheet(3, 2, 3);
        x.cell(3, 0, 65536 + 41);
        x.cell(3, 1, 12);
        x.cell(3, 2, 9999);
        due(24, "ints are whole", x.orders(3, 2, 0, 1), 0);
    }

    private static void promise25() {
        ThreeAddresses x = fresh();
        due(25, "sheet 4", x.copy(4, 0, 0, 0, 0), BAD);
        due(25, "other 4", x.copy(0, 0, 4, 0, 0), BAD);
        due(25, "other -1", x.copy(0, 0, -1, 0, 0), BAD);
        due(25, "missing", x.copy(0, 0, 0, 0, 0), NOTHING);
        x.sheet(0, 0, 5);
        x.sheet(1, 1, 5);
        x.sheet(2, 0, 3);
        due(25, "other missing", x.copy(0, 0, 3, 0, -1), NOTHING);
        due(25, "unlike", x.copy(0, 0, 1, 0, -1), OTHER);
        due(25, "unlike, none", x.copy(0, 0, 1, 0, 0), OTHER);
        due(25, "n below 0", x.copy(0, 0, 2, 0, -1), OUTSIDE);
        due(25, "i below 0", x.copy(0, -1, 2, 0, 0), OUTSIDE);
        due(25, "j below 0", x.copy(0, 0, 2, -1, 0), OUTSIDE);
        due(25, "too many there", x.copy(0, 0, 2, 0, 4), OUTSIDE);
        due(25, "too many here", x.copy(2, 0, 0, 0, 4), OUTSIDE);
        due(25, "i and n too large", x.copy(0, Integer.MAX_VALUE, 2, 0, Integer.MAX_VALUE), OUTSIDE);
        due(25, "none at the end", x.copy(0, 5, 2, 3, 0), 0);
        due(25, "none behind the end", x.copy(0, 6, 2, 3, 0), OUTSIDE);
        due(25, "none behind the other's end", x.copy(0, 5, 2, 4, 0), OUTSIDE);
        int[] items = {1, 2, 3, 4, 5};
        for (int i = 0; i < items.length; i++) {
            x.cell(0, i, items[i]);
        }
        due(25, "within itself", x.copy(0, 0, 0, 1, 4), 4);
        // 1 1 2 3 4: as they were.
        x.move(0, 4);
        x.order(0, 12, 99);
        x.order(0, 23, 99);
        x.order(0, 34, 99);
        x.sheet(2, 0, 4);
        due(25, "to another", x.copy(0, 1, 2, 0, 4), 4);
        due(25, "just these", x.covers(2, 1), 0);
        due(25, "all as they were", x.covers(2, 2), 7);
    }

    private static void promise26() {
        ThreeAddresses x = fresh();
        due(26, "sheet 4", x.orders(4, 0, 0, 0), BAD);
        due(26, "sheet -1", x.orders(-1, 0, 0, 0), BAD);
        due(26, "sort 3", x.orders(0, 3, 0, 0), BAD);
        due(26, "sort -1", x.orders(0, -1, 0, 0), BAD);
        due(26, "n 9", x.orders(0, 0, 0, 9), BAD);
        due(26, "n -1", x.orders(0, 0, 0, -1), BAD);
        due(26, "missing", x.orders(0, 0, 0, 8), NOTHING);
        x.sheet(0, 2, 40);
        due(26, "another sort", x.orders(0, 1, 0, 0), OTHER);
        due(26, "none", x.orders(0, 2, 0, 0), 0);
        due(26, "from below 0", x.orders(0, 2, -1, 1), OUTSIDE);
        due(26, "from far", x.orders(0, 2, Integer.MAX_VALUE, 2), OUTSIDE);
        for (int i = 0; i < 39; i += 3) {
            x.cell(0, i, i / 3);
            x.cell(0, i + 1, 12);
            x.cell(0, i + 2, 99);
        }
        // Items 0 .. 38 are 13 triples, of which 0 .. 9 are of KIND 0.
        due(26, "the last triple, then outside", x.orders(0, 2, 36, 2), OUTSIDE);
        due(26, "what stood ahead came", x.count(0), 1);
        due(26, "its kind", x.told(0, 7), 1);
        due(26, "from one that is no way", x.orders(0, 2, 1, 3), 0);
        due(26, "six", x.orders(0, 2, 3, 6), 6);
        due(26, "the eighth, others have no room", x.orders(0, 2, 0, 3), 1);
        due(26, "count(0)", x.count(0), 8);
        due(26, "no room", x.orders(0, 2, 0, 8), 0);
        due(26, "no room, then outside", x.orders(0, 2, 39, 1), OUTSIDE);
        due(26, "number of the eighth", x.told(7, 1), 0);
        due(26, "number of the second", x.told(1, 1), 1);
    }

    private static void promise27() {
        ThreeAddresses x = fresh();
        due(27, "no order, k 6", x.taken(0, 6), BAD);
        due(27, "no order, k -1", x.taken(0, -1), BAD);
        due(27, "no order", x.taken(0, 0), NOTHING);
        for (int kind = 0; kind < 6; kind++) {
            x.order(10 * kind + kind + 1, 12, 99);
        }
        String[] under = {"100000", "110000", "101000", "110100", "101010", "100001"};
        for (int kind = 0; kind < 6; kind++) {
            for (int k = 0; k < 6; k++) {
                int want = under[kind].charAt(k) == '1' ? kind + 1 : OTHER;
                due(27, "taken(" + kind + ", " + k + ")", x.taken(kind, k), want);
            }
        }
        due(27, "order 6", x.taken(6, 0), NOTHING);
        due(27, "order -1", x.taken(-1, 5), NOTHING);
        due(27, "order -1, k 6", x.taken(-1, 6), BAD);
    }
}
