import java.util.ArrayList;
import java.util.List;
import java.util.function.Consumer;
import java.util.function.ToLongFunction;

/**
 * What the tests of edges share: each test belongs to one promise and to one sentence of the document,
 * and says both where an answer is not the one that is due.
 */
final class Edges {
    static final int NONE = -1, BAD = -2, STATE = -3, FULL = -4;
    static final int NOTHING = -11, OUTSIDE = -12, OTHER = -13, BELOW = -14, NO_SUCH = -100;
    static final int LEAST = Integer.MIN_VALUE, MOST = Integer.MAX_VALUE;
    static final long NO = -4611686018427387904L;

    private static int promise = 0;
    private static String sentence = "";
    private static int tests = 0;
    private static int asked = 0;
    private static int wrong = 0;

    private Edges() {
    }

    /** One test: of a promise, and of the words of the document that name the edge. */
    static void edge(int ofPromise, String words, Runnable test) {
        promise = ofPromise;
        sentence = words;
        tests++;
        test.run();
    }

    static void due(String call, long got, long want) {
        asked++;
        if (got != want) {
            wrong++;
            System.out.println("promise " + promise + " (" + sentence + "): " + call + " answered " + got + ", due is " + want);
        }
    }

    /**
     * A refusal changes nothing: of two objects that were made alike one is asked what is refused;
     * all that can be seen of both is the same then.
     */
    static void refused(String call, int want, Consumer<ThreeAddresses> make, ToLongFunction<ThreeAddresses> ask) {
        ThreeAddresses asked = new ThreeAddresses();
        ThreeAddresses spared = new ThreeAddresses();
        make.accept(asked);
        make.accept(spared);
        due(call, ask.applyAsLong(asked), want);
        List<String> names = new ArrayList<>();
        List<Long> had = look(spared, names);
        List<Long> has = look(asked, new ArrayList<>());
        for (int i = 0; i < had.size(); i++) {
            due(call + " changes nothing: " + names.get(i), has.get(i), had.get(i));
        }
    }

    static void end(String name) {
        System.out.println(name + ": " + tests + " edges, " + asked + " answers, " + wrong + " wrong");
        if (wrong != 0) {
            System.exit(1);
        }
    }

    static ThreeAddresses fresh() {
        return new ThreeAddresses();
    }

    static void feedAll(ThreeAddresses x, String text) {
        for (int i = 0; i < text.length(); i++) {
            x.feed(text.charAt(i));
        }
    }

    static int read(ThreeAddresses x, String text) {
        feedAll(x, text);
        return x.text();
    }

    /** A text is read, and is the rule. */
    static void rule(ThreeAddresses x, String text) {
        int number = read(x, text);
        due("reading " + text, number >= 0 ? 1 : number, 1);
        x.force(number);
    }

    /** A sheet of ints with these items. */
    static void ints(ThreeAddresses x, int sheet, int... items) {
        row(x, sheet, 2, items);
    }

    static void row(ThreeAddresses x, int sheet, int sort, int... items) {
        x.sheet(sheet, sort, items.length);
        for (int i = 0; i < items.length; i++) {
            x.cell(sheet, i, items[i]);
        }
    }

    /** How many items a sheet has, told by places from which none are copied; NONE if it is missing. */
    static int size(ThreeAddresses x, int sheet) {
        for (int i = 0; i <= 41; i++) {
            int got = x.copy(sheet, i, sheet, i, 0);
            if (got == NOTHING) {
                return NONE;
            }
            if (got != 0) {
                return i - 1;
            }
        }
        return 41;
    }

    /** The sort as which a sheet is taken; NONE if it is missing. */
    static int sort(ThreeAddresses x, int sheet) {
        for (int sort = 0; sort < 3; sort++) {
            if (x.orders(sheet, sort, 0, 0) == 0) {
                return sort;
            }
        }
        return NONE;
    }

    /** All that can be seen of an object, by some 330 calls, the last of which change it. */
    private static List<Long> look(ThreeAddresses x, List<String> names) {
        List<Long> seen = new ArrayList<>();
        for (int what = 0; what < 6; what++) {
            see(seen, names, "count(" + what + ")", x.count(what));
        }
        lookAtOrders(x, seen, names);
        for (int house = 0; house < 8; house++) {
            for (int what = 0; what < 3; what++) {
                see(seen, names, "reaches(" + house + ", " + what + ")", x.reaches(house, what));
            }
        }
        for (int sheet = 0; sheet < 4; sheet++) {
            see(seen, names, "the sort of sheet " + sheet, sort(x, sheet));
            see(seen, names, "the size of sheet " + sheet, size(x, sheet));
            for (int what = 0; what < 3; what++) {
                see(seen, names, "covers(" + sheet + ", " + what + ")", x.covers(sheet, what));
            }
        }
        see(seen, names, "text()", x.text());
        see(seen, names, "count(4)", x.count(4));
        see(seen, names, "back()", x.back());
        for (int sheet = 0; sheet < 4; sheet++) {
            for (int sort = 0; sort < 3; sort++) {
                see(seen, names, "orders(" + sheet + ", " + sort + ", 0, 1)", x.orders(sheet, sort, 0, 1));
            }
        }
        lookAtOrders(x, seen, names);
        return seen;
    }

    private static void lookAtOrders(ThreeAddresses x, List<Long> seen, List<String> names) {
        for (int what = 0; what < 9; what++) {
            for (int of = 0; of < 8; of++) {
                if (what > 0 || of == 0) {
                    see(seen, names, "told(" + of + ", " + what + ")", x.told(of, what));
                }
            }
        }
        for (int day = 0; day < 100; day += 9) {
            see(seen, names, "lives(" + day + ")", x.lives(day));
        }
    }

    private static void see(List<Long> seen, List<String> names, String call, long got) {
        seen.add(got);
        names.add(call);
    }
}
