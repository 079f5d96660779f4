import java.util.function.Consumer;

/** Promises 16 to 22: each sentence of the document that names an edge of covers, draws and images, by a test of its own. */
public final class EdgesOfCoversTest {
    public static void main(String[] args) {
        coversRefused();
        coversOfSheets();
        coversDays();
        coversLong();
        coversOrders();
        coversTexts();
        coversKinds();
        filmRefused();
        film();
        drawn();
        chanceNone();
        chance();
        image();
        back();
        backKeeps();
        count();
        Edges.end("covers");
    }

    /** He lives in 3; from 1 to 2 to 3; sheet 0 tells 1 2 3, sheet 1 is empty, sheet 2 tells 0, sheet 3 is missing. */
    private static void way(ThreeAddresses x) {
        x.move(0, 3);
        x.order(0, 12, 99);
        x.order(0, 23, 99);
        Edges.ints(x, 0, 1, 2, 3);
        x.sheet(1, 0, 0);
        x.sheet(2, 1, 1);
    }

    private static int coversWay(int sheet, int what) {
        ThreeAddresses x = Edges.fresh();
        way(x);
        return x.covers(sheet, what);
    }

    private static void coversRefused() {
        Edges.edge(16, "BAD: SHEET below 0, above 3", () -> {
            for (int sheet : new int[] {Edges.LEAST, -1, 4, Edges.MOST}) {
                Edges.due("covers(" + sheet + ", 0)", coversWay(sheet, 0), Edges.BAD);
                Edges.due("covers(" + sheet + ", 10)", coversWay(sheet, 10), Edges.BAD);
            }
        });
        Edges.edge(16, "BAD: what is 0 .. 3 or 10 ..", () -> {
            for (int what : new int[] {Edges.LEAST, -1, 4, 5, 6, 7, 8, 9}) {
                Edges.due("covers(0, " + what + ")", coversWay(0, what), Edges.BAD);
            }
        });
        Edges.edge(16, "BAD: no such ORDER", () -> {
            Edges.due("covers(0, 11)", coversWay(0, 11), 63);
            for (int what : new int[] {12, 17, 18, 19, 20, Edges.MOST}) {
                Edges.due("covers(0, " + what + ")", coversWay(0, what), Edges.BAD);
            }
            ThreeAddresses x = Edges.fresh();
            x.sheet(0, 0, 1);
            Edges.due("covers(0, 10), no ORDERS", x.covers(0, 10), Edges.BAD);
        });
        Edges.edge(16, "the ORDER with number 7", () -> {
            ThreeAddresses x = Edges.fresh();
            way(x);
            for (int i = 2; i < 8; i++) {
                x.order(i, 45, 99);
            }
            Edges.due("covers(0, 17)", x.covers(0, 17), 63);
            Edges.due("covers(0, 18)", x.covers(0, 18), Edges.BAD);
        });
        Edges.edge(16, "-11: the SHEET is missing", () -> {
            for (int what : new int[] {0, 1, 2, 3, 10, 11}) {
                Edges.due("covers(3, " + what + ")", coversWay(3, what), Edges.NOTHING);
            }
        });
        Edges.edge(16, "the first that the words name: BAD: what, no such ORDER, ahead of -11", () -> {
            for (int what : new int[] {-1, 4, 9, 12, 19}) {
                Edges.due("covers(3, " + what + ")", coversWay(3, what), Edges.BAD);
            }
        });
        Edges.edge(16, "BAD: it tells none", () -> {
            for (int what : new int[] {0, 1, 2, 3, 10, 11}) {
                Edges.due("covers(1, " + what + ")", coversWay(1, what), Edges.BAD);
            }
        });
        Edges.edge(16, "BAD and -11 change nothing", () -> {
            Edges.refused("covers(4, 0)", Edges.BAD, EdgesOfCoversTest::way, x -> x.covers(4, 0));
            Edges.refused("covers(0, 12)", Edges.BAD, EdgesOfCoversTest::way, x -> x.covers(0, 12));
            Edges.refused("covers(1, 0)", Edges.BAD, EdgesOfCoversTest::way, x -> x.covers(1, 0));
            Edges.refused("covers(3, 0)", Edges.NOTHING, EdgesOfCoversTest::way, x -> x.covers(3, 0));
        });
    }

    /** A new object with one sheet that tells some houses, all but one 0. */
    private static int coversOf(int sort, int n, int at, int item) {
        ThreeAddresses x = Edges.fresh();
        x.sheet(0, sort, n);
        x.cell(0, at, item);
        return x.covers(0, 0);
    }

    private static void coversOfSheets() {
        Edges.edge(16, "a SHEET tells some HOUSES (1 .. 20): 1", () -> {
            for (int sort = 0; sort < 3; sort++) {
                Edges.due("sort " + sort, coversOf(sort, 1, 0, 0), 100);
            }
        });
        Edges.edge(16, "a SHEET tells some HOUSES (1 .. 20): 20 are, though none is so long", () -> {
            for (int sort = 0; sort < 3; sort++) {
                Edges.due("sort " + sort, coversOf(sort, 20, 0, 0), 0);
            }
        });
        Edges.edge(16, "BAD: it tells above 20", () -> {
            for (int sort = 0; sort < 3; sort++) {
                Edges.due("21 of sort " + sort, coversOf(sort, 21, 0, 0), Edges.BAD);
                Edges.due("40 of sort " + sort, coversOf(sort, 40, 0, 0), Edges.BAD);
            }
        });
        Edges.edge(16, "BAD: it tells what is no HOUSE", () -> {
            for (int sort = 0; sort < 3; sort++) {
                for (int item : new int[] {-1, 8, 100, -128}) {
                    Edges.due(item + " at first, sort " + sort, coversOf(sort, 2, 0, item), Edges.BAD);
                    Edges.due(item + " in the end, sort " + sort, coversOf(sort, 2, 1, item), Edges.BAD);
                    Edges.due(item + " as the 20th, sort " + sort, coversOf(sort, 20, 19, item), Edges.BAD);
                }
                Edges.due("7, sort " + sort, coversOf(sort, 2, 1, 7), 0);
            }
        });
        Edges.edge(16, "what is no HOUSE: a byte's lowest 8 bits, a short's lowest 16", () -> {
            Edges.due("256 as a byte is 0", coversOf(0, 1, 0, 256), 100);
            Edges.due("264 as a byte is 8", coversOf(0, 1, 0, 264), Edges.BAD);
            Edges.due("65536 as a short is 0", coversOf(1, 1, 0, 65536), 100);
            Edges.due("65536 as an int", coversOf(2, 1, 0, 65536), Edges.BAD);
            Edges.due("256 as a short", coversOf(1, 1, 0, 256), Edges.BAD);
            Edges.due("255 as a byte", coversOf(0, 1, 0, 255), Edges.BAD);
        });
        Edges.edge(16, "BAD of all that is asked, where it tells what is no HOUSE", () -> {
            ThreeAddresses x = Edges.fresh();
            way(x);
            x.cell(0, 2, 8);
            for (int what : new int[] {0, 1, 2, 3, 10, 11}) {
                Edges.due("covers(0, " + what + ")", x.covers(0, what), Edges.BAD);
            }
        });
    }

    private static void coversAre(ThreeAddresses x, int sheet, int... want) {
        for (int what = 0; what < want.length; what++) {
            Edges.due("covers(" + sheet + ", " + what + ")", x.covers(sheet, what), want[what]);
        }
    }

    private static void coversDays() {
        Edges.edge(16, "no such DAY: 0, NONE, no ORDERS, no TEXTS, no KINDS", () -> {
            ThreeAddresses x = Edges.fresh();
            way(x);
            Edges.ints(x, 0, 2, 1);
            coversAre(x, 0, 0, Edges.NONE, 0, 0);
            Edges.due("covers(0, 10)", x.covers(0, 10), 0);
            Edges.due("covers(0, 11)", x.covers(0, 11), 0);
        });
        Edges.edge(16, "all DAYS, the first is 0", () -> {
            ThreeAddresses x = Edges.fresh();
            x.sheet(0, 0, 1);
            coversAre(x, 0, 100, 0, 0, 1);
        });
        Edges.edge(16, "DAY 0 alone", () -> {
            ThreeAddresses x = Edges.fresh();
            x.order(0, 12, 0);
            Edges.ints(x, 0, 1, 2);
            coversAre(x, 0, 1, 0, 1, 1);
            Edges.due("KINDS: all but by ship (FOR GOOD: any DAY)", x.covers(0, 10), 63 - 8);
        });
        Edges.edge(16, "DAY 99 alone", () -> {
            ThreeAddresses x = Edges.fresh();
            x.order(0, 13, 98);
            x.order(0, 12, 9999);
            Edges.ints(x, 0, 1, 2);
            coversAre(x, 0, 1, 99, 2, 1);
        });
        Edges.edge(16, "it would be in just these: fewer, more are not", () -> {
            ThreeAddresses x = Edges.fresh();
            way(x);
            Edges.ints(x, 0, 1, 2);
            // Those of 98 and 99 are BACK from 2, on 100 and 101.
            coversAre(x, 0, 2, 98, 1, 1);
            Edges.ints(x, 0, 1, 2, 3);
            coversAre(x, 0, 98, 0, 3, 1);
            Edges.ints(x, 0, 1, 2, 3, 3);
            coversAre(x, 0, 0, Edges.NONE, 0, 0);
            Edges.ints(x, 0, 1);
            coversAre(x, 0, 0, Edges.NONE, 0, 0);
        });
        Edges.edge(16, "it would be in just these, one behind the other: each of them", () -> {
            ThreeAddresses x = Edges.fresh();
            way(x);
            int[][] others = {{0, 2, 3}, {1, 0, 3}, {1, 2, 0}, {1, 3, 2}, {3, 2, 1}};
            for (int[] other : others) {
                Edges.ints(x, 0, other);
                coversAre(x, 0, 0, Edges.NONE, 0, 0);
            }
        });
        Edges.edge(16, "till its END: he HAS it, BACK, LOST", () -> {
            ThreeAddresses x = Edges.fresh();
            x.move(50, 1);
            x.order(0, 2, 6060);
            Edges.ints(x, 0, 0);
            // He HAS those of 0 .. 49; those of 61 .. 99 are LOST.
            coversAre(x, 0, 89, 0, 0, 1);
            Edges.ints(x, 0, 0, 2);
            coversAre(x, 0, 11, 50, 1, 1);
        });
    }

    private static void coversLong() {
        Edges.edge(16, "20 HOUSES: just these", () -> {
            ThreeAddresses x = Edges.fresh();
            x.move(0, 7);
            x.order(0, 12, 99);
            x.order(0, 21, 99);
            x.set(0, 0, 18);
            int[] row = new int[20];
            for (int i = 0; i < 20; i++) {
                row[i] = 1 + i % 2;
            }
            Edges.ints(x, 0, row);
            // BACK with 19 STAMPS, the last of which is put by 99: on 36 or later.
            coversAre(x, 0, 64, 0, 3, 1);
            row[19] = 1;
            Edges.ints(x, 0, row);
            coversAre(x, 0, 0, Edges.NONE, 0, 0);
        });
        Edges.edge(16, "20 HOUSES are not 21 or 22", () -> {
            ThreeAddresses x = Edges.fresh();
            x.move(0, 7);
            x.order(0, 12, 99);
            x.order(0, 21, 99);
            int[] row = new int[20];
            for (int i = 0; i < 20; i++) {
                row[i] = 1 + i % 2;
            }
            Edges.ints(x, 0, row);
            x.set(0, 0, 19);
            // With 19 STAMPS above 99: that of 62 on 100, that of 63 on 101.
            coversAre(x, 0, 2, 62, 3, 1);
            x.set(0, 0, 20);
            coversAre(x, 0, 2, 62, 3, 1);
            x.set(0, 0, 17);
            coversAre(x, 0, 0, Edges.NONE, 0, 0);
        });
    }

    private static void coversOrders() {
        Edges.edge(16, "ORDERS by which any of these letters would be sent on: of like ones those that send", () -> {
            ThreeAddresses x = Edges.fresh();
            for (int i = 0; i < 7; i++) {
                x.order(0, 12, 101 * 10 * i + 5);
            }
            x.order(0, 12, 9999);
            Edges.ints(x, 0, 1, 2);
            Edges.due("all 8", x.covers(0, 2), 255);
            Edges.due("all DAYS", x.covers(0, 0), 100);
        });
        Edges.edge(16, "ORDERS: those of letters on other ways are not", () -> {
            ThreeAddresses x = Edges.fresh();
            x.order(0, 13, 49);
            x.order(0, 12, 99);
            x.order(0, 12, 99);
            Edges.ints(x, 0, 1, 2);
            coversAre(x, 0, 50, 50, 2, 1);
            Edges.ints(x, 0, 1, 3);
            coversAre(x, 0, 50, 0, 1, 1);
        });
    }

    private static void coversTexts() {
        Edges.edge(16, "TEXTS (bits): all 6", () -> {
            ThreeAddresses x = Edges.fresh();
            x.sheet(0, 0, 1);
            int bits = 1;
            for (int t = 1; t <= 5; t++) {
                Edges.due("TEXTS of " + t, x.covers(0, 3), bits);
                Edges.read(x, "takes 1;costs 1;minds 1;");
                bits |= 1 << t;
            }
            Edges.due("TEXTS of 6", x.covers(0, 3), 63);
        });
        Edges.edge(16, "TEXTS, were they THE RULE: of some DAY, and THE RULE stays", () -> {
            ThreeAddresses x = Edges.fresh();
            x.move(0, 7);
            x.move(60, 2);
            x.move(61, 7);
            x.order(0, 12, 3030);
            x.order(0, 23, 5099);
            // He HAS it in 2 on 60 alone: it is there from 31 on, and leaves for 3 on 50.
            Edges.ints(x, 0, 1, 2);
            Edges.read(x, "takes 30;costs 1;minds 1;");
            Edges.read(x, "takes 29;costs 1;minds 1;");
            Edges.rule(x, "takes 31;costs 1;minds 1;");
            // By 31 it is in 2 on 61 and goes to 3.
            coversAre(x, 0, 0, Edges.NONE, 0, 2);
            Edges.due("THE RULE", x.count(5), 3);
            x.force(1);
            coversAre(x, 0, 31, 0, 1, 2);
            Edges.due("THE RULE then", x.count(5), 1);
        });
    }

    private static void coversKinds() {
        Edges.edge(16, "KINDS (bits 0 .. 5), were they an ORDER's: each alone", () -> {
            ThreeAddresses x = Edges.fresh();
            x.order(3, 12, 2021);
            x.order(50, 13, 2200);
            Edges.due("an ORDER that is BAD", x.count(0), 1);
            x.order(50, 13, 2222);
            Edges.ints(x, 0, 1, 2);
            // 20 modulo 4 is 0; by ship on 21; all of them once.
            Edges.due("of order 0", x.covers(0, 10), 63);
            x.set(4, 0, 21);
            // 21 modulo 4 is 1; by ship never; NOW AND THEN never; KIND ONE on 22 .. 24; FOR GOOD on 21.
            Edges.due("of order 0 on 21", x.covers(0, 10), 1 + 2 + 16 + 32);
            x.set(1, 0, 0);
            // 21 modulo 1 is 0.
            Edges.due("NUMBER 0", x.covers(0, 10), 1 + 2 + 4 + 16 + 32);
            Edges.due("KIND stays", x.told(0, 7), 0);
        });
        Edges.edge(16, "KINDS: none but FOR GOOD", () -> {
            ThreeAddresses x = Edges.fresh();
            x.order(0, 13, 90);
            x.order(0, 12, 1010);
            Edges.ints(x, 0, 1, 2);
            Edges.due("covers(0, 0)", x.covers(0, 0), 0);
            Edges.due("of order 1: it sends behind 90", x.covers(0, 11), 32);
            // Of each KIND it sends on 10, or takes that of 0 .. 10 ahead of it.
            Edges.due("of order 0", x.covers(0, 10), 0);
            Edges.due("KIND of 0", x.told(0, 7), 0);
            Edges.due("KIND of 1", x.told(1, 7), 0);
        });
        Edges.edge(16, "KINDS: as it is of another KIND, and stays so", () -> {
            ThreeAddresses x = Edges.fresh();
            x.order(35, 12, 1010);
            Edges.ints(x, 0, 1, 2);
            Edges.due("by ship never", x.covers(0, 0), 0);
            // 10 modulo 6 is 4; KIND ONE on 11 .. 15.
            Edges.due("all others but NOW AND THEN", x.covers(0, 10), 1 + 2 + 16 + 32);
            Edges.due("KIND", x.told(0, 7), 3);
            Edges.due("by ship never still", x.covers(0, 0), 0);
        });
    }

    private static void filmRefused() {
        Edges.edge(17, "BAD: a SHEET below 0, above 3", () -> {
            for (int sheet : new int[] {Edges.LEAST, -1, 4, Edges.MOST}) {
                Edges.due("film(" + sheet + ", 0, 0)", Edges.fresh().film(sheet, 0, 0), Edges.BAD);
            }
        });
        Edges.edge(17, "BAD: a HOUSE below 0, above 7", () -> {
            for (int house : new int[] {Edges.LEAST, -1, 8, Edges.MOST}) {
                Edges.due("film(0, " + house + ", 0)", Edges.fresh().film(0, house, 0), Edges.BAD);
            }
        });
        Edges.edge(17, "BAD: a DAY below 0, above 99", () -> {
            for (int day : new int[] {Edges.LEAST, -1, 100, Edges.MOST}) {
                Edges.due("film(0, 0, " + day + ")", Edges.fresh().film(0, 0, day), Edges.BAD);
            }
        });
        Edges.edge(17, "BAD changes nothing", () -> {
            Edges.refused("film(4, 0, 0)", Edges.BAD, EdgesOfCoversTest::way, x -> x.film(4, 0, 0));
            Edges.refused("film(0, 8, 0)", Edges.BAD, EdgesOfCoversTest::way, x -> x.film(0, 8, 0));
            Edges.refused("film(0, 0, 100)", Edges.BAD, EdgesOfCoversTest::way, x -> x.film(0, 0, 100));
            Edges.refused("film(3, 0, -1)", Edges.BAD, EdgesOfCoversTest::way, x -> x.film(3, 0, -1));
        });
    }

    private static void film() {
        Edges.edge(17, "a SHEET that was missing truly becomes these, of bytes", () -> {
            ThreeAddresses x = Edges.fresh();
            way(x);
            Edges.due("film(3, 1, 0)", x.film(3, 1, 0), 3);
            Edges.due("its sort", Edges.sort(x, 3), 0);
            Edges.due("its size", Edges.size(x, 3), 3);
            coversAre(x, 3, 98, 0, 3, 1);
        });
        Edges.edge(17, "a SHEET of another sort and size truly becomes these", () -> {
            ThreeAddresses x = Edges.fresh();
            way(x);
            x.sheet(0, 2, 40);
            x.cell(0, 3, 9);
            Edges.due("film(0, 1, 0)", x.film(0, 1, 0), 3);
            Edges.due("its sort", Edges.sort(x, 0), 0);
            Edges.due("its size", Edges.size(x, 0), 3);
            Edges.due("an item behind it", x.cell(0, 3, 0), Edges.OUTSIDE);
        });
        Edges.edge(17, "one HOUSE, the fewest", () -> {
            ThreeAddresses x = Edges.fresh();
            Edges.due("film(0, 0, 0)", x.film(0, 0, 0), 1);
            Edges.due("film(3, 7, 99)", x.film(3, 7, 99), 1);
            Edges.due("its size", Edges.size(x, 3), 1);
            Edges.due("DAYS", x.covers(3, 0), 100);
        });
        Edges.edge(17, "the first 20", () -> {
            ThreeAddresses x = Edges.fresh();
            x.move(0, 7);
            x.order(0, 12, 99);
            x.order(0, 21, 99);
            for (int thick = 17; thick <= 20; thick++) {
                x.set(0, 0, thick);
                Edges.due("THICK " + thick, x.film(thick - 17, 1, 0), Math.min(20, thick + 2));
                Edges.due("size, THICK " + thick, Edges.size(x, thick - 17), Math.min(20, thick + 2));
            }
            // The last of each of 20 is 2, so that with THICK 18 just these are told.
            x.set(0, 0, 18);
            Edges.due("film of THICK 18", x.covers(1, 0), 64);
            Edges.due("film of THICK 20", x.covers(3, 0), 64);
            Edges.due("film of THICK 17", x.covers(0, 0), 2);
        });
        Edges.edge(17, "SHEETS 0 and 3, and no other is changed", () -> {
            ThreeAddresses x = Edges.fresh();
            x.film(0, 0, 0);
            x.film(3, 1, 0);
            int[] sizes = {1, Edges.NONE, Edges.NONE, 1};
            for (int sheet = 0; sheet < 4; sheet++) {
                Edges.due("size of " + sheet, Edges.size(x, sheet), sizes[sheet]);
            }
        });
    }

    /** By the document's words, in longs: how many of the 10 DAYS are below a bound. */
    private static int below(long seed, int bound) {
        long z = seed & 0xffffffffL;
        int n = 0;
        for (int i = 0; i < 10; i++) {
            z = z * 1103515245L + 12345L & 0xffffffffL;
            n += z / 512 % 100 < bound ? 1 : 0;
        }
        return n;
    }

    private static void drawn() {
        int[] seeds = {0, 1, -1, 2, 9, 12345, -12345, Edges.MOST, Edges.MOST - 1, Edges.LEAST, Edges.LEAST + 1, 1 << 30, -1 << 30};
        Edges.edge(18, "BAD: a HOUSE below 0, above 7", () -> {
            for (int house : new int[] {Edges.LEAST, -1, 8, Edges.MOST}) {
                Edges.due("drawn(" + house + ", 1)", Edges.fresh().drawn(house, 1), Edges.BAD);
            }
        });
        Edges.edge(18, "BAD changes nothing", () ->
            Edges.refused("drawn(8, 1)", Edges.BAD, EdgesOfCoversTest::way, x -> x.drawn(8, 1)));
        Edges.edge(18, "z is an int that wraps, z >>> 9 is 0 or more", () -> {
            for (int bound = 1; bound <= 99; bound += 7) {
                ThreeAddresses x = Edges.fresh();
                x.move(bound, 7);
                for (int seed : seeds) {
                    Edges.due("drawn(0, " + seed + "), " + bound, x.drawn(0, seed), below(seed, bound));
                }
            }
        });
        Edges.edge(18, "10 letters: all, none", () -> {
            for (int seed : seeds) {
                Edges.due("all, " + seed, Edges.fresh().drawn(0, seed), 10);
                Edges.due("none, " + seed, Edges.fresh().drawn(7, seed), 0);
            }
        });
        Edges.edge(18, "SEED at first: the same SEED draws the same again", () -> {
            ThreeAddresses x = Edges.fresh();
            x.move(50, 7);
            int once = x.drawn(0, 77);
            Edges.due("again", x.drawn(0, 77), once);
            Edges.due("by the words", once, below(77, 50));
        });
    }

    private static void chanceNone() {
        Edges.edge(19, "NO: a HOUSE below 0, above 7", () -> {
            for (int house : new int[] {Edges.LEAST, -1, 8, Edges.MOST}) {
                Edges.due("chance(" + house + ", ..)", Edges.fresh().chance(house, 0, 1, 0, 0), Edges.NO);
            }
        });
        Edges.edge(19, "n seeds (1 .. 20): others are NO", () -> {
            for (int n : new int[] {Edges.LEAST, -1, 0, 21, Edges.MOST}) {
                Edges.due("n " + n, Edges.fresh().chance(0, 0, n, 0, 0), Edges.NO);
                Edges.due("n " + n + ", below the line", Edges.fresh().chance(0, 0, n, 0, 1), Edges.NO);
            }
        });
        Edges.edge(19, "least (0 .. 10): others are NO", () -> {
            for (int least : new int[] {Edges.LEAST, -1, 11, Edges.MOST}) {
                Edges.due("least " + least, Edges.fresh().chance(0, 0, 1, least, 0), Edges.NO);
            }
        });
        Edges.edge(19, "part 0, 1: others are NO", () -> {
            for (int part : new int[] {Edges.LEAST, -1, 2, Edges.MOST}) {
                Edges.due("part " + part, Edges.fresh().chance(0, 0, 1, 0, part), Edges.NO);
            }
        });
        Edges.edge(19, "NO changes nothing", () -> {
            ThreeAddresses x = Edges.fresh();
            way(x);
            Edges.due("chance(8, ..)", x.chance(8, 0, 1, 0, 0), Edges.NO);
            Edges.due("covers(0, 0)", x.covers(0, 0), 98);
        });
    }

    private static void chanceIs(ThreeAddresses x, int house, int seed, int n, int least, int above, int below) {
        String call = "chance(" + house + ", " + seed + ", " + n + ", " + least + ", ";
        Edges.due(call + "0)", x.chance(house, seed, n, least, 0), above);
        Edges.due(call + "1)", x.chance(house, seed, n, least, 1), below);
    }

    private static void chance() {
        Edges.edge(19, "n 1 and n 20, all: 1 above 1", () -> {
            chanceIs(Edges.fresh(), 0, 5, 1, 10, 1, 1);
            chanceIs(Edges.fresh(), 0, 5, 20, 10, 1, 1);
        });
        Edges.edge(19, "n 1 and n 20, none: 0 above 1, in lowest terms", () -> {
            chanceIs(Edges.fresh(), 7, 5, 1, 1, 0, 1);
            chanceIs(Edges.fresh(), 7, 5, 20, 1, 0, 1);
        });
        Edges.edge(19, "least or more: least 0 is all, least 10 is those of all 10", () -> {
            chanceIs(Edges.fresh(), 7, 5, 20, 0, 1, 1);
            chanceIs(Edges.fresh(), 0, 5, 7, 10, 1, 1);
            ThreeAddresses x = Edges.fresh();
            x.move(50, 7);
            int exactly = below(3, 50);
            chanceIs(x, 0, 3, 1, exactly, 1, 1);
            chanceIs(x, 0, 3, 1, exactly + 1, 0, 1);
        });
        Edges.edge(19, "in lowest terms", () -> {
            for (int bound : new int[] {40, 50, 60}) {
                ThreeAddresses x = Edges.fresh();
                x.move(bound, 7);
                for (int n = 1; n <= 20; n++) {
                    lowest(x, bound, 1, n, 5);
                }
            }
        });
        Edges.edge(19, "SEED and each 1 more (an int): it wraps", () -> {
            ThreeAddresses x = Edges.fresh();
            x.move(50, 7);
            for (int least = 3; least <= 7; least++) {
                lowest(x, 50, Edges.MOST, 20, least);
                lowest(x, 50, Edges.MOST - 10, 20, least);
                lowest(x, 50, -1, 20, least);
            }
        });
    }

    private static void lowest(ThreeAddresses x, int bound, int seed, int n, int least) {
        int hits = 0;
        for (int i = 0; i < n; i++) {
            hits += below(seed + i, bound) >= least ? 1 : 0;
        }
        int divisor = java.math.BigInteger.valueOf(hits).gcd(java.math.BigInteger.valueOf(n)).intValue();
        chanceIs(x, 0, seed, n, least, hits / divisor, n / divisor);
    }

    private static void image() {
        Edges.edge(20, "how many ORDERS: none, 8", () -> {
            ThreeAddresses x = Edges.fresh();
            Edges.due("image() of none", x.image(), 0);
            for (int i = 0; i < 8; i++) {
                x.order(i, 12, 99);
                Edges.due("image() of " + (i + 1), x.image(), i + 1);
            }
        });
        Edges.edge(20, "it changes nothing but THE IMAGE", () -> {
            ThreeAddresses x = Edges.fresh();
            way(x);
            x.feed('x');
            x.image();
            int[] counts = {2, 1, 9, 1, 1, 0};
            for (int what = 0; what < 6; what++) {
                Edges.due("count(" + what + ")", x.count(what), counts[what]);
            }
            Edges.due("covers(0, 0)", x.covers(0, 0), 98);
        });
        Edges.edge(20, "the IMAGE that was is no more", () -> {
            ThreeAddresses x = Edges.fresh();
            x.order(0, 12, 99);
            x.set(0, 0, 5);
            x.image();
            x.order(0, 23, 99);
            x.set(0, 0, 6);
            x.image();
            x.order(0, 34, 99);
            x.set(0, 0, 7);
            Edges.due("back()", x.back(), 2);
            Edges.due("THICK", x.count(2), 6);
        });
    }

    private static void back() {
        Edges.edge(21, "STATE: there is none", () -> {
            Edges.refused("back()", Edges.STATE, EdgesOfCoversTest::way, x -> x.back());
            ThreeAddresses x = Edges.fresh();
            way(x);
            Edges.due("back()", x.back(), Edges.STATE);
            Edges.due("back() again", x.back(), Edges.STATE);
            x.image();
            Edges.due("back() to one", x.back(), 2);
        });
        Edges.edge(21, "an IMAGE of no ORDERS, no MOVES: all that came since go", () -> {
            ThreeAddresses x = Edges.fresh();
            x.image();
            for (int i = 0; i < 8; i++) {
                x.order(50, 10 * (i % 7 + 1), 99);
            }
            for (int i = 0; i < 6; i++) {
                x.move(i, 7);
            }
            Edges.due("back()", x.back(), 0);
            Edges.due("ORDERS", x.count(0), 0);
            Edges.due("MOVES", x.count(1), 0);
            Edges.due("lives(99)", x.lives(99), 0);
            Edges.due("told(0, 1)", x.told(0, 1), Edges.NO_SUCH);
            Edges.due("told(0, 6)", x.told(0, 6), Edges.NO_SUCH);
            for (int house = 1; house < 8; house++) {
                Edges.due("reaches(" + house + ", 0)", x.reaches(house, 0), 0);
            }
            Edges.due("a MOVE on DAY 0 again", x.move(0, 1), 1);
            Edges.due("an ORDER again", x.order(0, 12, 99), 0);
        });
        Edges.edge(21, "an IMAGE of 8 ORDERS, 6 MOVES: all as they were", () -> {
            ThreeAddresses x = Edges.fresh();
            for (int i = 0; i < 8; i++) {
                x.order(10 * (i % 6) + i, 10 * i + (i + 1) % 8, 100 * i + 50 + i);
            }
            for (int i = 0; i < 6; i++) {
                x.move(10 * i, i);
            }
            x.image();
            for (int i = 0; i < 8; i++) {
                x.set(1, i, 9 - i);
                x.set(2, i, (i + 3) % 8);
                x.set(3, i, (i + 5) % 8);
                x.set(4, i, 40);
                x.set(5, i, 99);
            }
            for (int i = 0; i < 6; i++) {
                x.set(6, i, 7);
            }
            Edges.due("back()", x.back(), 8);
            for (int i = 0; i < 8; i++) {
                int[] want = {0, i, i, (i + 1) % 8, i, 50 + i, 0, i % 6};
                for (int what : new int[] {1, 2, 3, 4, 5, 7}) {
                    Edges.due("told(" + i + ", " + what + ")", x.told(i, what), want[what]);
                }
                Edges.due("FULL", x.order(0, 12, 99), Edges.FULL);
            }
            for (int i = 0; i < 6; i++) {
                Edges.due("told(" + i + ", 6)", x.told(i, 6), i);
                Edges.due("told(" + i + ", 8)", x.told(i, 8), 10 * i);
                Edges.due("lives(" + (10 * i + 9) + ")", x.lives(10 * i + 9), i);
            }
            Edges.due("FULL", x.move(99, 1), Edges.FULL);
        });
        Edges.edge(21, "back() twice: what came between goes, too", () -> {
            ThreeAddresses x = Edges.fresh();
            x.order(0, 12, 99);
            x.image();
            x.back();
            x.order(0, 23, 99);
            x.set(1, 0, 8);
            x.move(4, 4);
            Edges.due("back()", x.back(), 1);
            Edges.due("NUMBER", x.told(0, 1), 0);
            Edges.due("MOVES", x.count(1), 0);
            Edges.due("a letter to 2 lies", x.letter(2, 0, 2), 2);
        });
    }

    private static void backKeeps() {
        Edges.edge(21, "AN IMAGE keeps THICK", () -> {
            ThreeAddresses x = Edges.fresh();
            x.set(0, 0, 1);
            x.image();
            x.set(0, 0, 20);
            x.back();
            Edges.due("THICK", x.count(2), 1);
        });
        Edges.edge(21, "AN IMAGE keeps THE RULE, not the TEXTS", () -> {
            ThreeAddresses x = Edges.fresh();
            x.order(0, 12, 99);
            Edges.rule(x, "takes 7;costs 1;minds 1;");
            x.image();
            Edges.rule(x, "takes 8;costs 1;minds 1;");
            x.back();
            Edges.due("THE RULE", x.count(5), 1);
            Edges.due("takes", x.sends(0, 0, 1), 7);
            Edges.due("TEXTS", x.count(3), 3);
            x.force(2);
            Edges.due("TEXT 2 stays", x.sends(0, 0, 1), 8);
        });
        Edges.edge(21, "THE TAPE, the SHEETS stay as they are", () -> {
            ThreeAddresses x = Edges.fresh();
            x.sheet(1, 0, 2);
            x.feed('a');
            x.image();
            x.feed('b');
            x.sheet(0, 2, 5);
            x.sheet(1, -1, 0);
            x.back();
            Edges.due("bytes of THE TAPE", x.count(4), 2);
            Edges.due("SHEET 0", Edges.size(x, 0), 5);
            Edges.due("SHEET 1", Edges.size(x, 1), Edges.NONE);
        });
        Edges.edge(21, "letters go as in THE IMAGE", () -> {
            ThreeAddresses x = Edges.fresh();
            x.move(50, 3);
            x.order(33, 13, 2060);
            x.image();
            x.set(2, 0, 2);
            x.set(3, 0, 4);
            x.set(4, 0, 0);
            x.set(5, 0, 10);
            x.set(1, 0, 0);
            x.set(6, 0, 6);
            Edges.due("from 1 it is not sent", x.letter(1, 0, 0), 2);
            x.back();
            // By ship not on 20: on 21 for 10 DAYS, there on 31, where he comes on 50.
            int[] want = {0, 50, 3, 1, 50};
            for (int what = 0; what < 5; what++) {
                Edges.due("letter(1, 0, " + what + ")", x.letter(1, 0, what), want[what]);
            }
            Edges.due("from 2 it is not sent", x.letter(2, 0, 2), 2);
        });
    }

    private static void count() {
        Edges.edge(22, "BAD: what is 0 .. 5", () -> {
            for (int what : new int[] {Edges.LEAST, -1, 6, Edges.MOST}) {
                Edges.due("count(" + what + ")", Edges.fresh().count(what), Edges.BAD);
            }
        });
        Edges.edge(22, "BAD changes nothing", () ->
            Edges.refused("count(6)", Edges.BAD, EdgesOfCoversTest::way, x -> x.count(6)));
        Edges.edge(22, "the fewest of all", () -> {
            int[] want = {0, 0, 1, 1, 0, 0};
            ThreeAddresses x = Edges.fresh();
            x.set(0, 0, 1);
            for (int what = 0; what < 6; what++) {
                Edges.due("count(" + what + ")", x.count(what), want[what]);
            }
        });
        Edges.edge(22, "the most of all", () -> {
            ThreeAddresses x = Edges.fresh();
            for (int i = 0; i < 9; i++) {
                x.order(i, 12, 99);
                x.move(i, 1);
            }
            x.set(0, 0, 20);
            for (int t = 0; t < 6; t++) {
                Edges.read(x, "takes 1;costs 1;minds 1;");
            }
            x.force(5);
            for (int i = 0; i < 170; i++) {
                x.feed(' ');
            }
            int[] want = {8, 6, 20, 6, 160, 5};
            for (int what = 0; what < 6; what++) {
                Edges.due("count(" + what + ")", x.count(what), want[what]);
            }
        });
    }
}
