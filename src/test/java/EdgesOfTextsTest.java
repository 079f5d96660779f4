import java.util.function.Consumer;

/** Promises 8 to 10: each sentence of the document that names an edge of texts, by a test of its own. */
public final class EdgesOfTextsTest {
    private static final String REST = ";costs 1;minds 1;";

    public static void main(String[] args) {
        feed();
        tape();
        endsTooEarly();
        tokens();
        words();
        numbers();
        wrongTokens();
        parts();
        open();
        openTillItEnds();
        truth();
        ranks();
        wraps();
        room();
        force();
        Edges.end("texts");
    }

    private static void fillTape(ThreeAddresses x, int n) {
        for (int i = 0; i < n; i++) {
            x.feed(' ');
        }
    }

    private static void feed() {
        Edges.edge(8, "a byte, 0 .. 255: below 0 is BAD", () -> {
            Edges.due("feed(-1)", Edges.fresh().feed(-1), Edges.BAD);
            Edges.due("feed(least)", Edges.fresh().feed(Edges.LEAST), Edges.BAD);
        });
        Edges.edge(8, "a byte, 0 .. 255: 0 is one", () -> Edges.due("feed(0)", Edges.fresh().feed(0), 1));
        Edges.edge(8, "a byte, 0 .. 255: 255 is one", () -> Edges.due("feed(255)", Edges.fresh().feed(255), 1));
        Edges.edge(8, "a byte, 0 .. 255: above 255 is BAD", () -> {
            Edges.due("feed(256)", Edges.fresh().feed(256), Edges.BAD);
            Edges.due("feed(most)", Edges.fresh().feed(Edges.MOST), Edges.BAD);
        });
        Edges.edge(8, "THE TAPE (160 bytes at most): FULL", () -> {
            ThreeAddresses x = Edges.fresh();
            for (int n = 1; n <= 160; n++) {
                Edges.due("feed " + n, x.feed('a'), n);
            }
            Edges.due("one more", x.feed('a'), Edges.FULL);
            Edges.due("and one", x.feed('a'), Edges.FULL);
            Edges.due("count(4)", x.count(4), 160);
        });
        Edges.edge(8, "how many it has, behind a text that was read", () -> {
            ThreeAddresses x = Edges.fresh();
            fillTape(x, 160);
            x.text();
            Edges.due("feed", x.feed('a'), 1);
            Edges.due("feed", x.feed('a'), 2);
        });
    }

    private static void tape() {
        Consumer<ThreeAddresses> some = x -> Edges.feedAll(x, "takes 1" + REST);
        Consumer<ThreeAddresses> all = x -> fillTape(x, 160);
        Edges.edge(8, "BAD changes nothing", () -> {
            Edges.refused("feed(256)", Edges.BAD, some, x -> x.feed(256));
            Edges.refused("feed(-1)", Edges.BAD, some, x -> x.feed(-1));
        });
        Edges.edge(8, "FULL changes nothing", () -> Edges.refused("feed('x')", Edges.FULL, all, x -> x.feed('x')));
        Edges.edge(8, "the first that the words name: BAD ahead of FULL", () -> {
            Edges.refused("feed(256)", Edges.BAD, all, x -> x.feed(256));
            Edges.refused("feed(-1)", Edges.BAD, all, x -> x.feed(-1));
        });
        Edges.edge(8, "a byte comes behind THE TAPE: 256 more is another", () -> {
            ThreeAddresses x = Edges.fresh();
            Edges.feedAll(x, "takes 1");
            Edges.due("feed(';' + 256)", x.feed(';' + 256), Edges.BAD);
            Edges.due("the rest", Edges.read(x, REST), 1);
        });
    }

    /** A text of which the sign ^ stands at the place of the fault. */
    private static void fault(String marked) {
        int place = marked.indexOf('^');
        String text = marked.substring(0, place) + marked.substring(place + 1);
        ThreeAddresses x = Edges.fresh();
        Edges.due("fault of " + marked, Edges.read(x, text), -100 - place);
        Edges.due("no text more by " + marked, x.count(3), 1);
        Edges.due("the tape is empty behind " + marked, x.count(4), 0);
    }

    private static void good(String text) {
        Edges.due("reading " + text, Edges.read(Edges.fresh(), text), 1);
    }

    private static void endsTooEarly() {
        Edges.edge(9, "FAULT: the text's size, if it ends too early: an empty tape", () -> fault("^"));
        Edges.edge(9, "ends too early: blanks alone", () -> {
            fault(" ^");
            fault("\n ^");
        });
        Edges.edge(9, "ends too early: behind each token of a whole text", () -> {
            String[] tokens = {
                "takes", "not", "(", "-", "day", "+", "2", "*", "3", ")", "<", "long", "and", "7", "or", "number", ";",
                "costs", "order", "=", "1", "-", "2", ";", "minds", "stamps", "-", "house", ";",
            };
            StringBuilder text = new StringBuilder();
            for (int i = 0; i < tokens.length - 1; i++) {
                text.append(i == 0 ? "" : " ").append(tokens[i]);
                fault(text + "^");
                fault(text + " \n^");
            }
            good(text + " ;");
        });
        Edges.edge(9, "ends too early: a text of 160 bytes", () -> {
            StringBuilder text = new StringBuilder("takes 1");
            while (text.length() < 160) {
                text.append(' ');
            }
            fault(text + "^");
        });
        Edges.edge(9, "a text of 160 bytes, the last of which ends it", () -> {
            StringBuilder text = new StringBuilder("takes 1;costs 1;minds 1");
            while (text.length() < 159) {
                text.append(' ');
            }
            good(text + ";");
            fault(text + "^,");
        });
    }

    private static void tokens() {
        Edges.edge(9, "blanks (32, 10) may stand between", () -> {
            good("takes 1 ; costs 1 ; minds 1 ;");
            good("takes\n1\n;\ncosts\n1\n;\nminds\n1\n;");
            good("takes  \n\n 1" + REST);
        });
        Edges.edge(9, "blanks need not stand between, where tokens end without", () -> {
            good("takes1;costs1;minds1;");
            good("takes(day)*(house)-(1)and(1)or(1)<2;costs1;minds1;");
            good("takes 1and 2or 3;costs 1;minds 1;");
        });
        Edges.edge(9, "blanks are 32 and 10 alone", () -> {
            for (int b : new int[] {0, 9, 11, 12, 13, 31, 33, 127, 128, 160, 255}) {
                fault("takes ^" + (char) b + "1" + REST);
            }
        });
        Edges.edge(9, "FAULT: also of a byte that begins none", () -> {
            String signs = "()*+-;<=";
            for (int b = 0; b < 256; b++) {
                char c = (char) b;
                boolean begins = c >= 'a' && c <= 'z' || c >= '0' && c <= '9' || signs.indexOf(c) >= 0 || c == ' ' || c == '\n';
                if (!begins) {
                    fault("takes 1 ^" + c + REST);
                }
            }
        });
        Edges.edge(9, "a byte that begins none, at the first place and at the last", () -> {
            fault("^Takes 1" + REST);
            fault("takes 1" + REST + "^.");
        });
        Edges.edge(9, "the first of several faults", () -> {
            fault("takes ^) ? 12345");
            fault("takes ^? )");
            fault("takes ^12345 x");
            fault("takes ^x 12345");
            fault("^costs ?");
        });
    }

    private static void words() {
        Edges.edge(9, "WORDS (a .. z), each as long as can be", () -> {
            fault("^takesday" + REST);
            fault("takes ^dayday" + REST);
            fault("takes ^nota" + REST);
            good("takes not1" + REST);
        });
        Edges.edge(9, "a .. z: ` and { begin none", () -> {
            fault("takes ^`" + REST);
            fault("takes ^{" + REST);
            fault("takes day^`" + REST);
            fault("takes day^{" + REST);
            fault("takes day^A" + REST);
        });
        Edges.edge(9, "a WORD that is neither KEY nor NAME", () -> {
            String[] wrong = {"a", "z", "da", "days", "hous", "houses", "stamp", "numbers", "orde", "orders", "lon", "longer", "x", "aday"};
            for (String word : wrong) {
                fault("takes ^" + word + REST);
            }
        });
        Edges.edge(9, "a WORD that is neither, where a KEY is due", () -> {
            fault("^take 1" + REST);
            fault("^takess 1" + REST);
            fault("takes 1;^cost 1;minds 1;");
            fault("takes 1;costs 1;^mind 1;");
            fault("takes 1 ^nor 1" + REST);
            fault("takes 1 ^an 1" + REST);
            fault("takes 1 ^andd 1" + REST);
            fault("takes ^no 1" + REST);
        });
        Edges.edge(9, "a WORD that is neither: each of its letters counts", () -> {
            String[] words = {"takes", "costs", "minds", "day", "house", "stamps", "number", "order", "long", "or", "and", "not"};
            String[] before = {"", "takes 1;", "takes 1;costs 1;", "takes ", "takes ", "takes ", "takes ", "takes ", "takes ",
                "takes 1 ", "takes 1 ", "takes "};
            for (int w = 0; w < words.length; w++) {
                for (int i = 0; i < words[w].length(); i++) {
                    String other = words[w].substring(0, i) + "x" + words[w].substring(i + 1);
                    fault(before[w] + "^" + other + " 1;");
                }
            }
        });
        Edges.edge(9, "a NAME with a large letter", () -> {
            fault("takes ^Day" + REST);
            fault("takes ^dAy" + REST);
        });
        Edges.edge(9, "a WORD of as many bytes as THE TAPE has", () -> fault("^" + "a".repeat(160)));
        Edges.edge(9, "NAMES are day house stamps number order long", () -> {
            for (String name : new String[] {"day", "house", "stamps", "number", "order", "long"}) {
                good("takes " + name + REST);
            }
        });
        Edges.edge(9, "takes, costs, minds, or, and, not are KEYS: none is a ONE", () -> {
            for (String key : new String[] {"takes", "costs", "minds", "or", "and"}) {
                fault("takes ^" + key + REST);
                fault("takes 1+^" + key + REST);
                fault("takes (^" + key + ")" + REST);
            }
        });
    }

    private static void numbers() {
        Edges.edge(9, "NUMBERS (digits, 4 at most): 4", () -> {
            good("takes 9999" + REST);
            good("takes 0000" + REST);
            Edges.due("costs 0099", costing("0099"), 99);
            Edges.due("costs 9999 = 9999", costing("9999-9998"), 1);
        });
        Edges.edge(9, "a NUMBER that is too long: 5", () -> {
            fault("takes ^10000" + REST);
            fault("takes ^00000" + REST);
            fault("takes 1+^12345" + REST);
            fault("takes 1;costs 1;minds ^99999;");
        });
        Edges.edge(9, "a NUMBER that is far too long", () -> {
            fault("takes ^4294967297" + REST);
            fault("takes ^" + "1".repeat(154));
            fault("^" + "0".repeat(160));
        });
        Edges.edge(9, "a NUMBER that is too long, where no NUMBER can stand", () -> fault("takes 1 ^12345" + REST));
        Edges.edge(9, "digits 0 .. 9: / and : begin none", () -> {
            fault("takes ^/" + REST);
            fault("takes ^:" + REST);
            fault("takes 1^/" + REST);
            fault("takes 1^:" + REST);
        });
        Edges.edge(9, "a NUMBER ends where its digits do", () -> {
            fault("takes 12^day" + REST);
            fault("takes 12 ^34" + REST);
            fault("takes 1234 ^5" + REST);
        });
    }

    private static void wrongTokens() {
        String[] ones = {"1", "day", "(1)", "-1", "1+1", "1*1", "1<1", "1=1", "not 1", "1 and 1", "1 or 1"};
        Edges.edge(9, "behind an E: no ONE, no not, no (", () -> {
            for (String e : ones) {
                fault("takes " + e + " ^1" + REST);
                fault("takes " + e + " ^day" + REST);
                fault("takes " + e + " ^(1)" + REST);
                fault("takes " + e + " ^not 1" + REST);
                fault("takes " + e + " ^)" + REST);
                fault("takes " + e + " ^takes" + REST);
            }
        });
        Edges.edge(9, "where an E is due: none that can't begin one", () -> {
            for (String before : new String[] {"takes ", "takes (", "takes not ", "takes 1 or ", "takes 1 and ", "takes 1;costs ", "takes 1;costs 1;minds "}) {
                for (String token : new String[] {";", ")", "+", "*", "<", "=", "and", "or", "takes", "costs", "minds"}) {
                    fault(before + "^" + token + " 1" + REST);
                }
            }
        });
        Edges.edge(9, "where a SUM, a TERM, a ONE is due: no not", () -> {
            for (String before : new String[] {"takes 1+", "takes 1-", "takes 1*", "takes 1<", "takes 1=", "takes -"}) {
                for (String token : new String[] {";", ")", "+", "*", "<", "=", "and", "or", "not", "takes"}) {
                    fault(before + "^" + token + " 1" + REST);
                }
            }
        });
        Edges.edge(9, "SUM, perhaps < or = and a SUM: not two of these", () -> {
            for (String first : new String[] {"<", "="}) {
                for (String second : new String[] {"<", "="}) {
                    fault("takes 1" + first + "2^" + second + "3" + REST);
                    fault("takes not 1" + first + "2^" + second + "3" + REST);
                    good("takes (1" + first + "2)" + second + "3" + REST);
                    good("takes 1" + first + "2 and 1" + second + "3" + REST);
                }
            }
        });
        Edges.edge(9, "( E ): its ) is due", () -> {
            fault("takes (1^;costs 1;minds 1;");
            fault("takes ((1)^;costs 1;minds 1;");
            fault("takes (1 ^2)" + REST);
            fault("takes (^)" + REST);
            fault("takes (1)^)" + REST);
        });
    }

    private static void parts() {
        Edges.edge(9, "TEXT: takes E ; costs E ; minds E ; in this order", () -> {
            fault("^costs 1;takes 1;minds 1;");
            fault("^minds 1;");
            fault("takes 1;^takes 1;minds 1;");
            fault("takes 1;^minds 1;costs 1;");
            fault("takes 1;costs 1;^costs 1;");
            fault("takes 1;costs 1;^takes 1;");
        });
        Edges.edge(9, "a ; behind each E", () -> {
            fault("takes 1 ^costs 1;minds 1;");
            fault("takes 1;costs 1 ^minds 1;");
            fault("takes 1;^;costs 1;minds 1;");
            fault("^;takes 1" + REST);
        });
        Edges.edge(9, "nothing behind the last ;", () -> {
            for (String token : new String[] {";", "takes", "1", "day", ")", "(", "+", "-", "not", "or"}) {
                fault("takes 1" + REST + "^" + token);
                fault("takes 1" + REST + " \n^" + token);
            }
            good("takes 1" + REST + " \n ");
        });
    }

    private static void open() {
        Edges.edge(9, "a ( while 5 of these are open", () -> {
            good("takes (((((1)))))" + REST);
            fault("takes (((((^(1))))))" + REST);
        });
        Edges.edge(9, "a not while 5 of these are open", () -> {
            good("takes not not not not not 1" + REST);
            fault("takes not not not not not ^not 1" + REST);
        });
        Edges.edge(9, "a - ahead of a ONE while 5 of these are open", () -> {
            good("takes -----1" + REST);
            fault("takes -----^-1" + REST);
            good("takes - - - - -day" + REST);
        });
        Edges.edge(9, "5 of these, of all sorts", () -> {
            String[] open = {"(", "not ", "-"};
            String[] five = {"not not(--", "not((-(", "((not((", "not not not--", "(not(-(", "--(((", "-(not(-", "not -(-("};
            for (String head : five) {
                good("takes " + head + "1" + ")".repeat(count(head, '(')) + REST);
                for (String sixth : open) {
                    boolean notCanStand = head.endsWith("(") || head.endsWith("not ");
                    if (!sixth.equals("not ") || notCanStand) {
                        fault("takes " + head + "^" + sixth + "1" + ")".repeat(count(head, '(')) + REST);
                    }
                }
            }
        });
        Edges.edge(9, "a - between is none of these", () -> {
            good("takes (((((1-1)))))" + REST);
            good("takes 1------1" + REST);
            fault("takes 1------^-1" + REST);
            fault("takes (((((1-^-1)))))" + REST);
        });
        Edges.edge(9, "5 open, in costs and in minds, too", () -> {
            fault("takes 1;costs (((((^(1))))));minds 1;");
            fault("takes 1;costs 1;minds -----^-1;");
            good("takes (((((1)))));costs (((((1)))));minds not(((-1)));");
        });
        Edges.edge(9, "5 open, where the text ends or another token is wrong", () -> {
            fault("takes (((((^");
            fault("takes (((((1^");
            fault("takes (((((^)" + REST);
            fault("takes (((((1^;" + REST);
        });
    }

    private static int count(String s, char c) {
        int n = 0;
        for (int i = 0; i < s.length(); i++) {
            n += s.charAt(i) == c ? 1 : 0;
        }
        return n;
    }

    private static void openTillItEnds() {
        Edges.edge(9, "a ( is open till its )", () -> {
            good("takes (((((1)))))+(((((1)))))*(((((1)))))" + REST);
            good("takes (1)+(1)+(1)+(1)+(1)+(1)+(1)" + REST);
            fault("takes (((((1)+(1)))))+(((((^(1" + REST);
            fault("takes ((((1)+((^(1))))))" + REST);
        });
        Edges.edge(9, "a - is open till what it belongs to ends: its ONE", () -> {
            good("takes -1-1--1+-1*-1*-1*-1*-1*-1" + REST);
            good("takes -----1+-----1" + REST);
            good("takes -----1*-----1" + REST);
            good("takes ----(1)*(1)" + REST);
            fault("takes ----(^(1)*1)" + REST);
            fault("takes -(1+--(^(1)))" + REST);
        });
        Edges.edge(9, "a not is open till what it belongs to ends: its NOT", () -> {
            good("takes not not not not not 1 and not not not not not 1" + REST);
            good("takes not not not not not 1 or (((((1)))))" + REST);
            fault("takes not not not not not 1+^(1)" + REST);
            fault("takes not not not not not 1<^-1" + REST);
            fault("takes not not not not (1)=(^(1))" + REST);
            good("takes not not not not 1<(1)" + REST);
        });
        Edges.edge(9, "what is open is open in all of it", () -> {
            fault("takes (1 and (1 or (1+(1*(1<^(1))))))" + REST);
            good("takes (1 and (1 or (1+(1*(1<1)))))" + REST);
        });
    }

    /** What an E tells as costs of order 0 (NUMBER 3, FROM 6 TO 1, 20 to 45). */
    private static int costing(String e) {
        ThreeAddresses x = Edges.fresh();
        x.order(3, 61, 2045);
        Edges.rule(x, "takes 1;costs " + e + ";minds 1;");
        return x.sends(0, 0, 2);
    }

    private static void is(String e, int want) {
        Edges.due("costs " + e, costing(e), want);
    }

    private static void truth() {
        Edges.edge(9, "what is not 0 is true: -1, 2, and what wraps to 0 is not", () -> {
            is("not -1", 0);
            is("not 2", 0);
            is("not 0", 1);
            is("not 256*256*256*256", 1);
            is("not 256*256*256*128", 0);
            is("5+(not 3)", 5);
            is("5+(not 0)", 6);
        });
        Edges.edge(9, "of or 1 or 0", () -> {
            is("7 or 0", 1);
            is("0 or 7", 1);
            is("0 or 0", 0);
            is("5 or 9", 1);
            is("-1 or 1", 1);
            is("5+(0 or 0)", 5);
            is("5+(0 or 7)", 6);
        });
        Edges.edge(9, "of and 1 or 0", () -> {
            is("7 and 9", 1);
            is("7 and 0", 0);
            is("0 and 7", 0);
            is("0 and 0", 0);
            is("-1 and 2", 1);
            is("5+(7 and 0)", 5);
            is("5+(7 and 9)", 6);
        });
        Edges.edge(9, "of < 1 or 0", () -> {
            is("2<2", 0);
            is("1<2", 1);
            is("2<1", 0);
            is("-1<0", 1);
            is("0<-1", 0);
            is("5+(2<1)", 5);
            is("5+(1<2)", 6);
        });
        Edges.edge(9, "of = 1 or 0", () -> {
            is("2=2", 1);
            is("2=3", 0);
            is("0=0", 1);
            is("1=-1", 0);
            is("5+(2=3)", 5);
            is("5+(2=2)", 6);
        });
    }

    private static void ranks() {
        Edges.edge(9, "E: AND { or AND }: and binds more than or", () -> {
            is("1 or 1 and 0", 1);
            is("0 and 1 or 1", 1);
            is("(1 or 1) and 0", 0);
        });
        Edges.edge(9, "NOT: not NOT, or SUM, perhaps < or = and a SUM: not is of all of these", () -> {
            is("not 5<3", 1);
            is("not 3<5", 0);
            is("not 1+1", 0);
            is("not 0 and 0", 0);
            is("not 0 or 1", 1);
            is("not not 7", 1);
        });
        Edges.edge(9, "SUM: TERM { + or - TERM }: from the left", () -> {
            is("50-20-10", 20);
            is("50-20+10", 40);
            is("50-(20-10)", 40);
        });
        Edges.edge(9, "TERM: ONE { * ONE }: ahead of + and -", () -> {
            is("2+3*4", 14);
            is("2*3+4", 10);
            is("50-2*3*4", 26);
        });
        Edges.edge(9, "- ONE: of a ONE alone", () -> {
            is("-3+10", 7);
            is("-3*-4", 12);
            is("-(3-10)", 7);
            is("10--3", 13);
            is("--5", 5);
        });
        Edges.edge(9, "a SUM on both sides of <", () -> {
            is("1+1<1+2", 1);
            is("3*3=10-1", 1);
        });
        Edges.edge(9, "the deepest that can be reckoned", () -> {
            is("1 or 1 and 1<1+1*(0 or 1 and 0<1+1*(0 or 1 and 0<1+1*(0 or 1 and 0<1+1*(0 or 1 and 0<1+1*(0 or 0)))))", 1);
            is("0 or 1 and 1=0+1*(0 or 1 and 1=0+1*(0 or 1 and 1=0+1*(0 or 1 and 1=0+1*(0 or 1 and 1=0+1*(2-1)))))", 1);
            is("2+2*(2+2*(2+2*(2+2*(2+2*(1)))))", 94);
        });
    }

    private static void wraps() {
        Edges.edge(9, "an int, 32 bits, wrapping: *", () -> {
            is("256*256*256*256", 0);
            is("256*256*256*256+7", 7);
            is("256*256*256*128<0", 1);
            is("9999*9999*9999<0", 9999 * 9999 * 9999 < 0 ? 1 : 0);
            is("-(256*256*256*128)<0", 1);
            is("256*256*256*128*-1<0", 1);
        });
        Edges.edge(9, "an int, wrapping: + above the most", () -> {
            is("256*256*256*128-1+1<0", 1);
            is("0<256*256*256*128-1", 1);
            is("256*256*256*127+256*256*256<0", 1);
        });
        Edges.edge(9, "an int, wrapping: - below the least", () -> {
            is("0<-256*256*256*128-1", 1);
            is("0<256*256*256*128-1", 1);
            is("0-256*256*256*128=256*256*256*128", 1);
        });
        Edges.edge(9, "an int: < of the least and the most", () -> {
            is("256*256*256*128<256*256*256*128-1", 1);
            is("256*256*256*128-1<256*256*256*128", 0);
        });
        Edges.edge(9, "what wraps is bound behind it", () -> {
            is("256*256*256*128-1+1", 0);
            is("-256*256*256*128-1", 99);
        });
    }

    private static void sixTexts(ThreeAddresses x) {
        for (int t = 1; t <= 5; t++) {
            Edges.read(x, "takes " + t + REST);
        }
    }

    private static void room() {
        Edges.edge(9, "THE TAPE is empty then", () -> {
            ThreeAddresses x = Edges.fresh();
            Edges.due("text()", Edges.read(x, "takes 1" + REST), 1);
            Edges.due("count(4)", x.count(4), 0);
            Edges.due("text() of an empty tape", x.text(), -100);
        });
        Edges.edge(9, "THE TAPE is empty then, behind a FAULT, too", () -> {
            ThreeAddresses x = Edges.fresh();
            Edges.due("text()", Edges.read(x, "takes"), -105);
            Edges.due("count(4)", x.count(4), 0);
            Edges.due("the next", Edges.read(x, "takes 1" + REST), 1);
        });
        Edges.edge(9, "6 TEXTS at most, TEXT 0 with them: FULL", () -> {
            ThreeAddresses x = Edges.fresh();
            for (int t = 1; t <= 5; t++) {
                Edges.due("text " + t, Edges.read(x, "takes 1" + REST), t);
            }
            Edges.due("count(3)", x.count(3), 6);
            Edges.due("one more", Edges.read(x, "takes 1" + REST), Edges.FULL);
            Edges.due("count(3) then", x.count(3), 6);
        });
        Edges.edge(9, "FULL: THE TAPE stays", () -> {
            ThreeAddresses x = Edges.fresh();
            sixTexts(x);
            Edges.read(x, "takes 1;");
            Edges.due("count(4)", x.count(4), 8);
            Edges.due("text()", x.text(), Edges.FULL);
            Edges.due("feed", x.feed('c'), 9);
        });
        Edges.edge(9, "FULL changes nothing", () -> {
            Consumer<ThreeAddresses> full = x -> {
                x.order(0, 12, 99);
                sixTexts(x);
                x.force(3);
                Edges.feedAll(x, "takes 9" + REST);
            };
            Edges.refused("text()", Edges.FULL, full, x -> x.text());
        });
        Edges.edge(9, "a FAULT takes no number and leaves the TEXTS", () -> {
            ThreeAddresses x = Edges.fresh();
            x.order(0, 12, 99);
            Edges.read(x, "takes 7" + REST);
            Edges.due("a fault in the end", Edges.read(x, "takes 9;costs 9;minds 9;9"), -124);
            Edges.due("count(3)", x.count(3), 2);
            Edges.due("force(2)", x.force(2), Edges.BAD);
            Edges.due("the next", Edges.read(x, "takes 8" + REST), 2);
            x.force(1);
            Edges.due("TEXT 1", x.sends(0, 0, 1), 7);
            x.force(2);
            Edges.due("TEXT 2", x.sends(0, 0, 1), 8);
        });
        Edges.edge(9, "a TEXT is not THE RULE yet", () -> {
            ThreeAddresses x = Edges.fresh();
            Edges.read(x, "takes 7" + REST);
            Edges.due("count(5)", x.count(5), 0);
        });
        Edges.edge(9, "all 6 TEXTS are kept", () -> {
            ThreeAddresses x = Edges.fresh();
            x.order(0, 12, 99);
            sixTexts(x);
            int[] takes = {2, 1, 2, 3, 4, 5};
            for (int t = 5; t >= 0; t--) {
                x.force(t);
                Edges.due("takes of TEXT " + t, x.sends(0, 0, 1), takes[t]);
            }
        });
    }

    private static void force() {
        Edges.edge(10, "BAD: below 0", () -> {
            Edges.due("force(-1)", Edges.fresh().force(-1), Edges.BAD);
            Edges.due("force(least)", Edges.fresh().force(Edges.LEAST), Edges.BAD);
        });
        Edges.edge(10, "BAD: one behind the last", () -> {
            Edges.due("force(1)", Edges.fresh().force(1), Edges.BAD);
            Edges.due("force(most)", Edges.fresh().force(Edges.MOST), Edges.BAD);
        });
        Edges.edge(10, "the last of 6, none behind it", () -> {
            ThreeAddresses x = Edges.fresh();
            sixTexts(x);
            Edges.due("force(5)", x.force(5), 0);
            Edges.due("force(6)", x.force(6), Edges.BAD);
            Edges.due("force(0)", x.force(0), 5);
            Edges.due("force(0) again", x.force(0), 0);
        });
        Edges.edge(10, "BAD changes nothing", () -> {
            Consumer<ThreeAddresses> two = x -> {
                x.order(0, 12, 99);
                Edges.rule(x, "takes 7" + REST);
            };
            Edges.refused("force(2)", Edges.BAD, two, x -> x.force(2));
            Edges.refused("force(-1)", Edges.BAD, two, x -> x.force(-1));
        });
    }
}
