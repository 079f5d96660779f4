import java.util.function.Consumer;

/** Promises 11 to 15: each sentence of the document that names an edge of letters, by a test of its own. */
public final class EdgesOfLettersTest {
    public static void main(String[] args) {
        letterBad();
        letterAtOnce();
        letterThick();
        letterAbove99();
        letterLies();
        letterSent();
        letterHouses();
        reachesBad();
        reachesNoneAndAll();
        grief();
        longestAndLast();
        overtaken();
        round();
        needless();
        enough();
        costsTogether();
        oneMoreRefused();
        oneMore();
        oneMoreOfLikeOnes();
        thicker();
        Edges.end("letters");
    }

    /** END, DAY, HOUSE, STAMPS, LONG, then all the houses. */
    private static void ends(ThreeAddresses x, int house, int day, int[] end, int... houses) {
        String call = "letter(" + house + ", " + day + ", ";
        for (int what = 0; what < 5; what++) {
            Edges.due(call + what + ")", x.letter(house, day, what), end[what]);
        }
        for (int i = 0; i < 20; i++) {
            Edges.due(call + (10 + i) + ")", x.letter(house, day, 10 + i), i < houses.length ? houses[i] : Edges.NONE);
        }
    }

    private static int[] end(int... parts) {
        return parts;
    }

    private static void letterBad() {
        Edges.edge(11, "BAD: a HOUSE below 0, above 7", () -> {
            for (int house : new int[] {Edges.LEAST, -1, 8, Edges.MOST}) {
                Edges.due("letter(" + house + ", 0, 0)", Edges.fresh().letter(house, 0, 0), Edges.BAD);
                Edges.due("letter(" + house + ", 0, 10)", Edges.fresh().letter(house, 0, 10), Edges.BAD);
            }
        });
        Edges.edge(11, "HOUSES 0 and 7", () -> {
            Edges.due("letter(0, 0, 2)", Edges.fresh().letter(0, 0, 2), 0);
            Edges.due("letter(7, 0, 2)", Edges.fresh().letter(7, 0, 2), 7);
        });
        Edges.edge(11, "BAD: a DAY below 0, above 99", () -> {
            for (int day : new int[] {Edges.LEAST, -1, 100, Edges.MOST}) {
                Edges.due("letter(0, " + day + ", 0)", Edges.fresh().letter(0, day, 0), Edges.BAD);
                Edges.due("letter(0, " + day + ", 10)", Edges.fresh().letter(0, day, 10), Edges.BAD);
            }
        });
        Edges.edge(11, "BAD: what is 0 .. 4 or 10 .. 29", () -> {
            for (int what : new int[] {Edges.LEAST, -1, 5, 6, 7, 8, 9, 30, 31, Edges.MOST}) {
                Edges.due("letter(0, 0, " + what + ")", Edges.fresh().letter(0, 0, what), Edges.BAD);
            }
        });
        Edges.edge(11, "BAD changes nothing", () -> {
            Consumer<ThreeAddresses> make = x -> {
                x.move(10, 3);
                x.order(0, 13, 99);
            };
            Edges.refused("letter(8, 0, 0)", Edges.BAD, make, x -> x.letter(8, 0, 0));
            Edges.refused("letter(0, 0, 5)", Edges.BAD, make, x -> x.letter(0, 0, 5));
        });
    }

    private static void letterAtOnce() {
        Edges.edge(11, "it is there on that DAY, with 0 STAMPS: on DAY 0 and on DAY 99", () -> {
            ThreeAddresses x = Edges.fresh();
            ends(x, 0, 0, end(0, 0, 0, 0, 0), 0);
            ends(x, 0, 99, end(0, 99, 0, 0, 0), 0);
        });
        Edges.edge(11, "if he LIVES there, he HAS it, ahead of any ORDER", () -> {
            ThreeAddresses x = Edges.fresh();
            x.order(0, 1, 99);
            ends(x, 0, 0, end(0, 0, 0, 0, 0), 0);
            ends(x, 0, 99, end(0, 99, 0, 0, 0), 0);
        });
        Edges.edge(11, "he LIVES there from the DAY of the MOVE on", () -> {
            ThreeAddresses x = Edges.fresh();
            x.move(50, 1);
            x.order(0, 12, 99);
            ends(x, 1, 50, end(0, 50, 1, 0, 0), 1);
            ends(x, 1, 49, end(2, 99, 2, 1, 50), 1, 2);
            ends(x, 0, 49, end(0, 49, 0, 0, 0), 0);
            ends(x, 0, 50, end(2, 99, 0, 0, 49), 0);
        });
    }

    /** He lives in 4; from 1 to 2 to 3 to 4, each way a day. */
    private static ThreeAddresses chain(int thick) {
        ThreeAddresses x = Edges.fresh();
        x.move(0, 4);
        x.order(0, 12, 99);
        x.order(0, 23, 99);
        x.order(0, 34, 99);
        Edges.rule(x, "takes 1;costs 1;minds 1;");
        x.set(0, 0, thick);
        return x;
    }

    private static void letterThick() {
        Edges.edge(11, "more than THICK STAMPS: as many are not more", () -> {
            ThreeAddresses x = chain(2);
            ends(x, 1, 0, end(0, 3, 4, 3, 3), 1, 2, 3, 4);
            ends(x, 2, 0, end(0, 2, 4, 2, 2), 2, 3, 4);
        });
        Edges.edge(11, "more than THICK STAMPS: it goes BACK", () -> {
            ThreeAddresses x = chain(1);
            ends(x, 1, 0, end(1, 2, 3, 2, 2), 1, 2, 3);
        });
        Edges.edge(11, "if he LIVES there, he HAS it, though it has more than THICK STAMPS", () -> {
            ThreeAddresses x = chain(1);
            ends(x, 2, 0, end(0, 2, 4, 2, 2), 2, 3, 4);
        });
        Edges.edge(11, "too thick: BACK on the DAY itself, though no ORDER sends and he comes later", () -> {
            ThreeAddresses x = chain(1);
            x.set(5, 2, 0);
            x.set(6, 0, 7);
            x.move(50, 3);
            ends(x, 1, 0, end(1, 2, 3, 2, 2), 1, 2, 3);
            x.set(0, 0, 2);
            ends(x, 1, 0, end(0, 50, 3, 2, 50), 1, 2, 3);
        });
        Edges.edge(11, "too thick on DAY 99: BACK, not LOST", () -> {
            ThreeAddresses x = chain(1);
            x.set(4, 2, 99);
            x.set(6, 0, 7);
            ends(x, 1, 97, end(1, 99, 3, 2, 2), 1, 2, 3);
            x.set(0, 0, 2);
            x.set(3, 2, 5);
            ends(x, 1, 97, end(1, 100, 5, 3, 3), 1, 2, 3, 5);
        });
        Edges.edge(11, "THICK 20, the most: BACK with 21 STAMPS", () -> {
            ThreeAddresses x = Edges.fresh();
            x.move(0, 7);
            x.order(0, 12, 99);
            x.order(0, 21, 99);
            x.set(0, 0, 20);
            ends(x, 1, 0, end(1, 42, 2, 21, 42), 1, 2, 1, 2, 1, 2, 1, 2, 1, 2, 1, 2, 1, 2, 1, 2, 1, 2, 1, 2);
            ends(x, 2, 57, end(1, 99, 1, 21, 42), 2, 1, 2, 1, 2, 1, 2, 1, 2, 1, 2, 1, 2, 1, 2, 1, 2, 1, 2, 1);
        });
        Edges.edge(11, "THICK 9, at first: BACK with 10 STAMPS", () -> {
            ThreeAddresses x = Edges.fresh();
            x.move(0, 7);
            x.order(0, 12, 99);
            x.order(0, 21, 99);
            ends(x, 1, 0, end(1, 20, 1, 10, 20), 1, 2, 1, 2, 1, 2, 1, 2, 1, 2, 1);
        });
        Edges.edge(11, "THICK 1, the least: BACK with 2 STAMPS", () -> {
            ThreeAddresses x = Edges.fresh();
            x.move(0, 7);
            x.order(0, 12, 99);
            x.order(0, 21, 99);
            x.set(0, 0, 1);
            ends(x, 1, 0, end(1, 4, 1, 2, 4), 1, 2, 1);
        });
    }

    /** He lives in 4 but for day 99, on which he moves to 5; from 1 to 4 and from 1 to 5 in some days. */
    private static ThreeAddresses late(int to, int days) {
        ThreeAddresses x = Edges.fresh();
        x.move(0, 4);
        x.move(99, 5);
        x.order(0, 10 + to, 99);
        Edges.rule(x, "takes " + days + ";costs 1;minds 1;");
        return x;
    }

    private static void letterAbove99() {
        Edges.edge(11, "on DAYS above 99 as on DAY 99: he HAS it", () -> {
            ThreeAddresses x = late(5, 1);
            ends(x, 1, 98, end(0, 99, 5, 1, 1), 1, 5);
            ends(x, 1, 99, end(0, 100, 5, 1, 1), 1, 5);
            ThreeAddresses y = late(5, 40);
            ends(y, 1, 99, end(0, 139, 5, 1, 40), 1, 5);
        });
        Edges.edge(11, "on DAYS above 99 as on DAY 99: not as on DAY 98", () -> {
            ThreeAddresses x = late(4, 1);
            ends(x, 1, 97, end(0, 98, 4, 1, 1), 1, 4);
            ends(x, 1, 98, end(2, 99, 4, 1, 1), 1, 4);
            ends(x, 1, 99, end(1, 100, 4, 1, 1), 1, 4);
        });
        Edges.edge(11, "the DAY is above 99: it goes BACK, though an ORDER FOR GOOD stands there", () -> {
            ThreeAddresses x = late(4, 1);
            x.order(50, 45, 0);
            ends(x, 1, 98, end(0, 100, 5, 2, 2), 1, 4, 5);
            ends(x, 1, 99, end(1, 100, 4, 1, 1), 1, 4);
        });
        Edges.edge(11, "above 99: the longest way, by ship", () -> {
            ThreeAddresses x = late(5, 40);
            x.order(39, 65, 99);
            ends(x, 6, 0, end(0, 99, 5, 1, 99), 6, 5);
            ends(x, 6, 1, end(0, 99, 5, 1, 98), 6, 5);
            ends(x, 6, 2, end(0, 100, 5, 1, 98), 6, 5);
            ends(x, 6, 99, end(0, 197, 5, 1, 98), 6, 5);
            x.set(3, 1, 4);
            ends(x, 6, 99, end(1, 197, 4, 1, 98), 6, 4);
        });
    }

    private static void letterLies() {
        Edges.edge(11, "if the DAY is 99, it is LOST", () -> {
            ThreeAddresses x = Edges.fresh();
            ends(x, 1, 99, end(2, 99, 1, 0, 0), 1);
            ends(x, 1, 98, end(2, 99, 1, 0, 1), 1);
            ends(x, 1, 0, end(2, 99, 1, 0, 99), 1);
        });
        Edges.edge(11, "an ORDER that SENDS on DAY 99 is ahead of LOST", () -> {
            ThreeAddresses x = Edges.fresh();
            x.order(0, 10, 9999);
            ends(x, 1, 0, end(0, 101, 0, 1, 101), 1, 0);
            ends(x, 1, 99, end(0, 101, 0, 1, 2), 1, 0);
        });
        Edges.edge(11, "he HAS it on DAY 99, ahead of LOST", () -> {
            ThreeAddresses x = Edges.fresh();
            x.move(99, 1);
            ends(x, 1, 0, end(0, 99, 1, 0, 99), 1);
            ends(x, 1, 99, end(0, 99, 1, 0, 0), 1);
        });
        Edges.edge(11, "it is there on the next DAY, too: till an ORDER SENDS", () -> {
            ThreeAddresses x = Edges.fresh();
            x.order(0, 10, 5060);
            ends(x, 1, 49, end(0, 52, 0, 1, 3), 1, 0);
            ends(x, 1, 50, end(0, 52, 0, 1, 2), 1, 0);
            ends(x, 1, 60, end(0, 62, 0, 1, 2), 1, 0);
            ends(x, 1, 61, end(2, 99, 1, 0, 38), 1);
        });
        Edges.edge(11, "it is there on the next DAY, too: till he comes, ahead of an ORDER of that DAY", () -> {
            ThreeAddresses x = Edges.fresh();
            x.move(50, 1);
            x.order(0, 12, 5060);
            ends(x, 1, 10, end(0, 50, 1, 0, 40), 1);
            x.set(4, 0, 49);
            ends(x, 1, 10, end(2, 99, 2, 1, 89), 1, 2);
        });
        Edges.edge(11, "where it came with STAMPS it lies, too", () -> {
            ThreeAddresses x = Edges.fresh();
            x.move(0, 7);
            x.order(0, 12, 10);
            x.order(0, 27, 3030);
            ends(x, 1, 5, end(0, 32, 7, 2, 27), 1, 2, 7);
        });
    }

    private static void letterSent() {
        Edges.edge(11, "by the first of these: of two that send the one with the lower number", () -> {
            ThreeAddresses x = Edges.fresh();
            x.order(0, 12, 5099);
            x.order(0, 13, 99);
            ends(x, 1, 49, end(2, 99, 3, 1, 50), 1, 3);
            ends(x, 1, 50, end(2, 99, 2, 1, 49), 1, 2);
        });
        Edges.edge(11, "by the first of these: the eighth, where no other sends", () -> {
            ThreeAddresses x = Edges.fresh();
            for (int i = 0; i < 7; i++) {
                x.order(0, 12, i);
            }
            x.order(0, 13, 99);
            ends(x, 1, 6, end(2, 99, 2, 1, 93), 1, 2);
            ends(x, 1, 7, end(2, 99, 3, 1, 92), 1, 3);
        });
        Edges.edge(11, "an ORDER FROM there alone", () -> {
            ThreeAddresses x = Edges.fresh();
            x.order(0, 21, 99);
            x.order(0, 31, 99);
            ends(x, 1, 0, end(2, 99, 1, 0, 99), 1);
        });
        Edges.edge(11, "LASTS later: by takes below 1 it is 1, above 40 it is 40", () -> {
            ThreeAddresses x = Edges.fresh();
            x.order(0, 10, 99);
            Edges.rule(x, "takes 0-5;costs 1;minds 1;");
            ends(x, 1, 0, end(0, 1, 0, 1, 1), 1, 0);
            Edges.rule(x, "takes 500;costs 1;minds 1;");
            ends(x, 1, 0, end(0, 40, 0, 1, 40), 1, 0);
        });
        Edges.edge(11, "takes: stamps: how many it has ahead: 0 at first", () -> {
            ThreeAddresses x = chain(9);
            Edges.rule(x, "takes 3+stamps*10;costs 1;minds 1;");
            ends(x, 1, 0, end(0, 39, 4, 3, 39), 1, 2, 3, 4);
        });
        Edges.edge(11, "takes: long: for how many DAYS the letter has been under way: 0 at first, where it lies too", () -> {
            ThreeAddresses x = chain(9);
            Edges.rule(x, "takes 3+long;costs 1;minds 1;");
            // 0 to 3; 3 and 6 more is 9; 9 and 12 more is 21.
            ends(x, 1, 0, end(0, 21, 4, 3, 21), 1, 2, 3, 4);
            x.set(4, 0, 2);
            // It lies till 2; 5 more is 7; 10 more is 17; 20 more is 37.
            ends(x, 1, 0, end(0, 37, 4, 3, 37), 1, 2, 3, 4);
        });
        Edges.edge(11, "takes: day: the DAY; house: FROM; order; number", () -> {
            ThreeAddresses x = chain(9);
            x.set(1, 1, 7);
            Edges.rule(x, "takes day+house*2+order*5+number;costs 1;minds 1;");
            // On 3: 3 and 2 is 5, so 8; on 8: 8 and 4 and 5 and 7 is 24, so 32; on 32: 32 and 6 and 10 is above 40, so 72.
            ends(x, 1, 3, end(0, 72, 4, 3, 69), 1, 2, 3, 4);
        });
    }

    private static void letterHouses() {
        Edges.edge(11, "10 .. 29: NONE: there were fewer", () -> {
            ThreeAddresses x = Edges.fresh();
            Edges.due("letter(0, 0, 10)", x.letter(0, 0, 10), 0);
            Edges.due("letter(0, 0, 11)", x.letter(0, 0, 11), Edges.NONE);
            Edges.due("letter(0, 0, 29)", x.letter(0, 0, 29), Edges.NONE);
        });
        Edges.edge(11, "10 .. 29: the last of 20", () -> {
            ThreeAddresses x = Edges.fresh();
            x.move(0, 7);
            x.order(0, 12, 99);
            x.order(0, 23, 99);
            x.order(0, 31, 99);
            // With THICK 18 it is in 20 houses, with 17 in 19.
            x.set(0, 0, 18);
            Edges.due("letter(1, 0, 29)", x.letter(1, 0, 29), 2);
            Edges.due("letter(1, 0, 30)", x.letter(1, 0, 30), Edges.BAD);
            x.set(0, 0, 17);
            Edges.due("letter(1, 0, 29) of 19", x.letter(1, 0, 29), Edges.NONE);
            Edges.due("letter(1, 0, 28) of 19", x.letter(1, 0, 28), 1);
        });
        Edges.edge(11, "a HOUSE in which it lies is one of all, once", () -> {
            ThreeAddresses x = Edges.fresh();
            x.move(50, 1);
            Edges.due("letter(1, 0, 10)", x.letter(1, 0, 10), 1);
            Edges.due("letter(1, 0, 11)", x.letter(1, 0, 11), Edges.NONE);
        });
    }

    private static void reachesBad() {
        Edges.edge(12, "BAD: a HOUSE below 0, above 7", () -> {
            for (int what = 0; what < 6; what++) {
                for (int house : new int[] {Edges.LEAST, -1, 8, Edges.MOST}) {
                    Edges.due("reaches(" + house + ", " + what + ")", Edges.fresh().reaches(house, what), Edges.BAD);
                }
            }
        });
        Edges.edge(12, "BAD: what is 0 .. 5", () -> {
            for (int what : new int[] {Edges.LEAST, -1, 6, Edges.MOST}) {
                Edges.due("reaches(0, " + what + ")", Edges.fresh().reaches(0, what), Edges.BAD);
            }
        });
        Edges.edge(12, "BAD changes nothing", () ->
            Edges.refused("reaches(8, 0)", Edges.BAD, x -> x.move(10, 3), x -> x.reaches(8, 0)));
    }

    private static void reaches(ThreeAddresses x, int house, int... want) {
        for (int what = 0; what < 6; what++) {
            Edges.due("reaches(" + house + ", " + what + ")", x.reaches(house, what), want[what]);
        }
    }

    private static void reachesNoneAndAll() {
        Edges.edge(12, "he HAS none: last DAY NONE, LONGEST NONE, ROUND NONE", () ->
            reaches(Edges.fresh(), 7, 0, Edges.NONE, 1000, Edges.NONE, 0, Edges.NONE));
        Edges.edge(12, "he HAS all: on each of DAYS 0 .. 99", () ->
            reaches(Edges.fresh(), 0, 100, 99, 0, 0, 0, Edges.NONE));
        Edges.edge(12, "he HAS that of DAY 0 alone", () -> {
            ThreeAddresses x = Edges.fresh();
            x.move(1, 7);
            reaches(x, 0, 1, 0, 990, 0, 0, Edges.NONE);
        });
        Edges.edge(12, "he HAS that of DAY 99 alone", () -> {
            ThreeAddresses x = Edges.fresh();
            x.move(0, 7);
            x.move(99, 0);
            x.order(0, 1, 98);
            reaches(x, 0, 1, 99, 990, 0, 0, Edges.NONE);
        });
        Edges.edge(12, "he HAS all but that of DAY 99", () -> {
            ThreeAddresses x = Edges.fresh();
            x.move(99, 7);
            reaches(x, 0, 99, 98, 10, 0, 0, Edges.NONE);
        });
        Edges.edge(12, "he HAS all but that of DAY 0", () -> {
            ThreeAddresses x = Edges.fresh();
            x.move(0, 7);
            x.move(1, 3);
            x.order(0, 34, 0);
            reaches(x, 3, 99, 99, 10, 0, 0, Edges.NONE);
        });
    }

    private static int griefBy(String minds, int house) {
        ThreeAddresses x = Edges.fresh();
        x.order(0, 34, 99);
        Edges.rule(x, "takes 1;costs 1;minds " + minds + ";");
        return x.reaches(house, 2);
    }

    private static void grief() {
        Edges.edge(12, "minds: 0 .. 999, else the bound: below 0", () -> {
            Edges.due("minds 0", griefBy("0", 7), 0);
            Edges.due("minds -1", griefBy("-1", 7), 0);
            Edges.due("minds 1", griefBy("1", 7), 100);
            Edges.due("minds the least int", griefBy("-256*256*256*128", 7), 0);
        });
        Edges.edge(12, "minds: 0 .. 999, else the bound: above 999", () -> {
            Edges.due("minds 998", griefBy("998", 7), 99800);
            Edges.due("minds 999", griefBy("999", 7), 99900);
            Edges.due("minds 1000", griefBy("1000", 7), 99900);
            Edges.due("minds the most int", griefBy("256*256*256*128-1", 7), 99900);
        });
        Edges.edge(12, "minds: each is bound, not all together", () -> {
            // 50 below 0 count as none, 50 above 999 as 999.
            Edges.due("minds", griefBy("(day<50)*-5000+(49<day)*5000", 7), 49950);
        });
        Edges.edge(12, "minds: day, house, as it was written", () -> {
            Edges.due("day", griefBy("day", 7), 4950);
            Edges.due("house 3, though it ends in 4", griefBy("house", 3), 300);
            Edges.due("house 7", griefBy("house", 7), 700);
        });
        Edges.edge(12, "minds: stamps, long: in the end", () -> {
            Edges.due("stamps of those that are sent", griefBy("stamps", 3), 100);
            Edges.due("stamps of those that lie", griefBy("stamps", 7), 0);
            Edges.due("long: till 99", griefBy("long", 7), 4950);
            // It is LOST in 4 on 99, but for that of 99, which is BACK on 100.
            Edges.due("long of those that are sent", griefBy("long", 3), 4951);
        });
        Edges.edge(12, "minds: number, order 0", () -> {
            ThreeAddresses x = Edges.fresh();
            x.order(5, 21, 99);
            x.order(5, 34, 99);
            Edges.rule(x, "takes 1;costs 1;minds 7+number+order*3;");
            Edges.due("reaches(3, 2)", x.reaches(3, 2), 700);
        });
        Edges.edge(12, "GRIEF: of those that he doesn't HAVE", () -> Edges.due("he HAS all", griefBy("999", 0), 0));
    }

    private static void longestAndLast() {
        Edges.edge(12, "LONGEST: of those he HAS; others may be longer", () -> {
            ThreeAddresses x = Edges.fresh();
            x.move(10, 7);
            // Those of 10 .. 99 are LOST, the first of them is 89 days under way.
            Edges.due("reaches(0, 3)", x.reaches(0, 3), 0);
        });
        Edges.edge(12, "LONGEST: by a way that ends above 99", () -> {
            ThreeAddresses x = Edges.fresh();
            x.order(39, 10, 9899);
            Edges.rule(x, "takes 40;costs 1;minds 1;");
            // By ship not on 98: all lie till 99, and are there on 197.
            reaches(x, 1, 100, 99, 0, 197, 0, Edges.NONE);
        });
        Edges.edge(12, "the last DAY on which one was written that he HAS, though others ahead are LOST", () -> {
            ThreeAddresses x = Edges.fresh();
            x.move(0, 7);
            x.order(0, 12, 50);
            x.order(0, 17, 6060);
            // Those of 0 .. 50 are LOST in 2; those of 51 .. 60 go to 7.
            reaches(x, 1, 10, 60, 900, 11, 0, Edges.NONE);
        });
    }

    private static void overtaken() {
        Edges.edge(12, "OVERTAKEN: on a DAY above; on the same DAY is not", () -> {
            ThreeAddresses x = Edges.fresh();
            x.order(0, 10, 9999);
            // All are there on 101.
            Edges.due("all on one day", x.reaches(1, 4), 0);
            ThreeAddresses y = Edges.fresh();
            y.order(12, 10, 5050);
            y.order(11, 10, 5151);
            y.order(10, 10, 5252);
            Edges.rule(y, "takes 1;costs 1;minds 1;");
            // Those of 0 .. 50 are there on 53, that of 51 on 53, that of 52 on 53.
            Edges.due("each on 53", y.reaches(1, 4), 0);
            y.set(1, 2, 0);
            y.set(1, 1, 0);
            // Those of 0 .. 50 on 53, that of 51 on 52, that of 52 on 53.
            Edges.due("by that of 51", y.reaches(1, 4), 51);
        });
        Edges.edge(12, "OVERTAKEN: by any that was written later, not by the next alone", () -> {
            ThreeAddresses x = Edges.fresh();
            x.order(19, 10, 0);
            x.order(19, 10, 101);
            x.order(15, 10, 202);
            x.order(10, 10, 303);
            Edges.rule(x, "takes 1;costs 1;minds 1;");
            // That of 0 is there on 10, of 1 on 11, of 2 on 8, of 3 on 4; others are LOST.
            Edges.due("three", x.reaches(1, 4), 3);
            x.set(5, 3, 99);
            // That of 4 is there on 5 and so on: still three.
            Edges.due("three, others behind", x.reaches(1, 4), 3);
        });
        Edges.edge(12, "OVERTAKEN: those he doesn't HAVE are not, and overtake none", () -> {
            ThreeAddresses x = Edges.fresh();
            x.order(19, 12, 0);
            x.order(19, 10, 101);
            x.order(0, 12, 299);
            // That of 0 is LOST in 2, that of 1 is there on 12, all others are LOST in 2.
            Edges.due("none", x.reaches(1, 4), 0);
        });
        Edges.edge(12, "OVERTAKEN: 99 of 100", () -> {
            ThreeAddresses x = Edges.fresh();
            x.order(19, 10, 9898);
            x.order(10, 10, 9999);
            // Those of 0 .. 98 leave on 98, are there on 109; that of 99 on 101.
            reaches(x, 1, 100, 99, 0, 109, 99, Edges.NONE);
        });
    }

    private static void round() {
        Edges.edge(12, "ROUND: by one ORDER twice: once is none", () -> {
            ThreeAddresses x = Edges.fresh();
            x.move(0, 7);
            x.order(0, 12, 0);
            x.order(0, 21, 99);
            x.order(0, 12, 199);
            x.set(0, 0, 2);
            // From 0: by 0, by 1, by 2: too thick then.
            Edges.due("by three", x.letter(1, 0, 3), 3);
            x.set(5, 2, 2);
            Edges.due("none", x.reaches(1, 5), Edges.NONE);
            x.set(0, 0, 3);
            // From 0: by 0 on 0, by 1 on 2, by 2 on 4 no more, for it stands 1 to 2.
            Edges.due("none still", x.reaches(1, 5), Edges.NONE);
            x.set(5, 2, 4);
            // From 0: by 0, 1, 2, 1: twice by 1.
            Edges.due("that of 0", x.reaches(1, 5), 0);
        });
        Edges.edge(12, "ROUND: the first DAY, where it is not DAY 0", () -> {
            ThreeAddresses x = Edges.fresh();
            x.move(50, 7);
            x.order(0, 1, 99);
            x.order(0, 10, 99);
            // Till 49 he HAS it in 0; that of 50 goes from 0 to 1 to 0 to 1 ..
            Edges.due("from 0", x.reaches(0, 5), 50);
            // To 1 on 48: in 0 on 50, in 1 on 52, so by 1 twice; to 1 on 47: in 0 on 49, where he HAS it.
            Edges.due("from 1", x.reaches(1, 5), 48);
        });
        Edges.edge(12, "ROUND: the last DAYS are too short for one: NONE", () -> {
            ThreeAddresses x = Edges.fresh();
            x.move(0, 7);
            x.order(0, 12, 9699);
            x.order(0, 21, 9699);
            Edges.rule(x, "takes 2;costs 1;minds 1;");
            // On 96 by 0, on 98 by 1, on 100 BACK.
            Edges.due("96 to 99", x.reaches(1, 5), Edges.NONE);
            x.set(4, 0, 95);
            x.set(4, 1, 95);
            // On 95, 97 and 99: by 0 twice.
            Edges.due("95 to 99", x.reaches(1, 5), 0);
        });
        Edges.edge(12, "ROUND: of one that he HAS, too", () -> {
            ThreeAddresses x = Edges.fresh();
            x.move(0, 7);
            x.order(0, 17, 1099);
            x.order(0, 12, 99);
            x.order(0, 21, 99);
            // From 0: in 1 on 0, 4, 8, 12: by 1 on 0, 4, 8, and he HAS it on 14.
            Edges.due("he HAS it", x.letter(1, 0, 1), 14);
            Edges.due("that of 0", x.reaches(1, 5), 0);
        });
        Edges.edge(12, "ROUND: that of DAY 99 can't", () -> {
            ThreeAddresses x = Edges.fresh();
            x.move(98, 7);
            x.order(0, 1, 99);
            x.order(0, 10, 99);
            Edges.rule(x, "takes 1;costs 1;minds 1;");
            // That of 98 is in 1 on 99, in 0 on 100.
            Edges.due("from 0", x.reaches(0, 5), Edges.NONE);
            x.set(6, 0, 7);
            // To 1 on 97: in 0 on 98, in 1 on 99, in 0 on 100: by 1 twice.
            Edges.due("from 1", x.reaches(1, 5), 97);
        });
    }

    private static void needless() {
        Edges.edge(13, "BAD: a HOUSE below 0, above 7", () -> {
            for (int house : new int[] {Edges.LEAST, -1, 8, Edges.MOST}) {
                for (int what = 0; what < 3; what++) {
                    Edges.due("needless(" + house + ", " + what + ")", Edges.fresh().needless(house, what), Edges.BAD);
                }
            }
        });
        Edges.edge(13, "BAD: what is 0 .. 2", () -> {
            for (int what : new int[] {Edges.LEAST, -1, 3, Edges.MOST}) {
                Edges.due("needless(0, " + what + ")", Edges.fresh().needless(0, what), Edges.BAD);
            }
        });
        Edges.edge(13, "BAD changes nothing", () ->
            Edges.refused("needless(8, 0)", Edges.BAD, x -> x.order(0, 12, 99), x -> x.needless(8, 0)));
        Edges.edge(13, "no ORDERS: none is NEEDLESS, none are ENOUGH, they cost 0", () -> {
            for (int what = 0; what < 3; what++) {
                Edges.due("needless(0, " + what + ")", Edges.fresh().needless(0, what), 0);
                Edges.due("needless(5, " + what + ")", Edges.fresh().needless(5, what), 0);
            }
        });
        Edges.edge(13, "8 ORDERS, all NEEDLESS: 255", () -> {
            ThreeAddresses x = Edges.fresh();
            for (int i = 0; i < 8; i++) {
                x.order(i, 12, 99);
            }
            Edges.due("he HAS none", x.needless(1, 0), 255);
            Edges.due("ENOUGH", x.needless(1, 1), 0);
            Edges.due("costs", x.needless(1, 2), 0);
            Edges.due("he HAS all", x.needless(0, 0), 255);
        });
        Edges.edge(13, "he would HAVE no fewer: one fewer is fewer", () -> {
            ThreeAddresses x = Edges.fresh();
            x.move(0, 7);
            x.order(0, 7, 0);
            x.order(0, 7, 198);
            x.order(0, 7, 9999);
            x.order(0, 7, 9999);
            // Without 0 that of 0 is sent on 1; without 1 all wait till 99; 2 and 3 serve the same DAY.
            Edges.due("all are needless", x.needless(0, 0), 15);
            x.set(5, 0, 99);
            x.set(4, 0, 99);
            x.set(5, 1, 97);
            x.set(4, 2, 98);
            x.set(5, 2, 98);
            x.set(5, 3, 99);
            Edges.due("two of them on 99", x.needless(0, 0), 15);
            x.set(4, 3, 98);
            x.set(5, 3, 98);
            Edges.due("how many by 99", x.reaches(0, 0), 100);
            // Without 0 that of 99 alone is LOST.
            Edges.due("99 needs 0", x.needless(0, 0), 14);
        });
        Edges.edge(13, "he would HAVE no fewer: more is no fewer", () -> {
            ThreeAddresses x = Edges.fresh();
            x.order(0, 12, 99);
            x.order(0, 10, 99);
            // The first sends all to 2, where they are LOST or BACK.
            Edges.due("reaches(1, 0)", x.reaches(1, 0), 0);
            Edges.due("both", x.needless(1, 0), 3);
            x.set(5, 0, 89);
            Edges.due("reaches(1, 0) of 90 .. 99", x.reaches(1, 0), 10);
            Edges.due("the first", x.needless(1, 0), 1);
            Edges.due("ENOUGH: the second alone", x.needless(1, 1), 2);
        });
    }

    private static void enough() {
        Edges.edge(13, "ENOUGH: of like ones the least as bits", () -> {
            ThreeAddresses x = Edges.fresh();
            x.order(0, 10, 99);
            x.order(0, 10, 99);
            x.order(0, 10, 99);
            Edges.due("one of three", x.needless(1, 1), 1);
            Edges.due("costs", x.needless(1, 2), 99);
        });
        Edges.edge(13, "ENOUGH: that of least costs, though it has more bits", () -> {
            ThreeAddresses x = Edges.fresh();
            x.order(0, 10, 99);
            x.order(0, 10, 5099);
            // The second costs 54 and is enough: all wait till 50.
            Edges.due("the second", x.needless(1, 1), 2);
            Edges.due("costs", x.needless(1, 2), 54);
            x.order(0, 10, 9999);
            Edges.due("the third", x.needless(1, 1), 4);
            Edges.due("costs of it", x.needless(1, 2), 5);
        });
        Edges.edge(13, "ENOUGH, costs 0: none that is not needed, of like ones the least as bits", () -> {
            ThreeAddresses x = Edges.fresh();
            x.order(0, 34, 99);
            x.order(0, 10, 99);
            x.order(0, 10, 99);
            Edges.rule(x, "takes 1;costs 0;minds 1;");
            Edges.due("ENOUGH", x.needless(1, 1), 2);
            Edges.due("costs", x.needless(1, 2), 0);
            Edges.due("none at home", x.needless(0, 1), 0);
        });
        Edges.edge(13, "ENOUGH: no fewer than now: that of one DAY needs its ORDER", () -> {
            ThreeAddresses x = Edges.fresh();
            x.order(0, 10, 50);
            x.order(0, 10, 5199);
            Edges.due("the second alone is enough", x.needless(1, 1), 2);
            x.set(5, 1, 98);
            x.order(0, 10, 9999);
            Edges.due("that of 99 by the third", x.needless(1, 1), 4);
            x.set(4, 2, 98);
            x.set(5, 2, 98);
            x.order(0, 12, 9999);
            // He HAS those of 0 .. 98 by the third alone, too.
            Edges.due("99 of 100", x.reaches(1, 0), 99);
            Edges.due("the third alone", x.needless(1, 1), 4);
            Edges.due("costs 5", x.needless(1, 2), 5);
        });
        Edges.edge(13, "ENOUGH: two are needed, less than all", () -> {
            ThreeAddresses x = Edges.fresh();
            x.order(0, 56, 99);
            x.order(0, 12, 99);
            x.order(0, 34, 99);
            x.order(0, 20, 99);
            Edges.rule(x, "takes 1;costs 50;minds 1;");
            Edges.due("1 and 3", x.needless(1, 1), 10);
            Edges.due("costs", x.needless(1, 2), 100);
            Edges.due("NEEDLESS", x.needless(1, 0), 5);
        });
    }

    private static void costsTogether() {
        Edges.edge(13, "costs of these, together: 8 ORDERS, each 99", () -> {
            ThreeAddresses x = Edges.fresh();
            int[] ways = {12, 23, 34, 45, 56, 67, 70};
            for (int way : ways) {
                x.order(0, way, 99);
            }
            x.order(0, 12, 5099);
            x.set(5, 0, 49);
            Edges.rule(x, "takes 1+(20<long)*39;costs 200;minds 1;");
            // Those of 0 .. 93 leave 7 by 99; 0 .. 49 by the first, 50 .. 93 by the last. One that lies for long is slow then.
            Edges.due("reaches(1, 0)", x.reaches(1, 0), 94);
            Edges.due("NEEDLESS", x.needless(1, 0), 0);
            Edges.due("ENOUGH", x.needless(1, 1), 255);
            Edges.due("costs", x.needless(1, 2), 792);
        });
        Edges.edge(13, "an ORDER keeps its number, where others are left out", () -> {
            ThreeAddresses x = Edges.fresh();
            x.order(0, 10, 99);
            x.order(0, 10, 99);
            Edges.rule(x, "takes 1;costs 20-order*5;minds 1;");
            Edges.due("ENOUGH", x.needless(1, 1), 2);
            Edges.due("costs", x.needless(1, 2), 15);
        });
        Edges.edge(13, "it changes nothing", () -> {
            Consumer<ThreeAddresses> make = x -> {
                x.order(0, 12, 99);
                x.order(0, 20, 99);
            };
            for (int what = 0; what < 3; what++) {
                int asked = what;
                int[] want = {0, 3, 198};
                Edges.refused("needless(1, " + what + ")", want[what], make, x -> x.needless(1, asked));
            }
        });
    }

    private static void oneMoreRefused() {
        Consumer<ThreeAddresses> full = x -> {
            for (int i = 0; i < 8; i++) {
                x.order(i, 12, 99);
            }
        };
        Edges.edge(14, "BAD: a HOUSE below 0, above 7", () -> {
            for (int house : new int[] {Edges.LEAST, -1, 8, Edges.MOST}) {
                Edges.due("oneMore(" + house + ", 0, 0)", Edges.fresh().oneMore(house, 0, 0), Edges.BAD);
            }
        });
        Edges.edge(14, "BAD: a DAY below 0, above 99", () -> {
            for (int day : new int[] {Edges.LEAST, -1, 100, Edges.MOST}) {
                Edges.due("oneMore(1, " + day + ", 0)", Edges.fresh().oneMore(1, day, 0), Edges.BAD);
            }
        });
        Edges.edge(14, "BAD: what is 0, 1", () -> {
            for (int what : new int[] {Edges.LEAST, -1, 2, Edges.MOST}) {
                Edges.due("oneMore(1, 0, " + what + ")", Edges.fresh().oneMore(1, 0, what), Edges.BAD);
            }
        });
        Edges.edge(14, "FULL: there are 8 ORDERS", () -> {
            ThreeAddresses x = Edges.fresh();
            full.accept(x);
            Edges.due("oneMore(1, 0, 0)", x.oneMore(1, 0, 0), Edges.FULL);
            Edges.due("oneMore(1, 0, 1)", x.oneMore(1, 0, 1), Edges.FULL);
            Edges.due("oneMore(0, 0, 0), where none is needed", x.oneMore(0, 0, 0), Edges.FULL);
        });
        Edges.edge(14, "not FULL: there are 7 ORDERS", () -> {
            ThreeAddresses x = Edges.fresh();
            for (int i = 0; i < 7; i++) {
                x.order(i, 12, 99);
            }
            Edges.due("oneMore(1, 0, 0)", x.oneMore(1, 0, 0), 20);
            Edges.due("oneMore(1, 0, 1)", x.oneMore(1, 0, 1), 98);
        });
        Edges.edge(14, "the first that the words name: BAD ahead of FULL", () -> {
            Edges.refused("oneMore(8, 0, 0)", Edges.BAD, full, x -> x.oneMore(8, 0, 0));
            Edges.refused("oneMore(0, 100, 0)", Edges.BAD, full, x -> x.oneMore(0, 100, 0));
            Edges.refused("oneMore(0, 0, 2)", Edges.BAD, full, x -> x.oneMore(0, 0, 2));
        });
        Edges.edge(14, "FULL changes nothing", () ->
            Edges.refused("oneMore(1, 0, 0)", Edges.FULL, full, x -> x.oneMore(1, 0, 0)));
        Edges.edge(14, "the ORDER that would be most is not one yet", () -> {
            Consumer<ThreeAddresses> some = x -> {
                x.order(39, 12, 3050);
                x.order(0, 23, 99);
            };
            Edges.refused("oneMore(1, 0, 0)", 10, some, x -> x.oneMore(1, 0, 0));
            // On 31 .. 50 the first takes them to 2, and then they are LOST in 3.
            Edges.refused("oneMore(1, 0, 1)", 80, some, x -> x.oneMore(1, 0, 1));
            // Nor is any that was tried: the next takes its place, of another KIND.
            ThreeAddresses x = Edges.fresh();
            x.oneMore(1, 0, 0);
            Edges.due("the letters are as they were", x.reaches(1, 0), 0);
            Edges.due("an ORDER", x.order(50, 67, 5050), 0);
            Edges.due("no other sends from 1", x.reaches(1, 0), 0);
            Edges.due("nor from 7", x.letter(7, 99, 2), 7);
        });
    }

    private static void oneMore() {
        Edges.edge(14, "if more than now; NONE, and as now, if none", () -> {
            ThreeAddresses x = Edges.fresh();
            Edges.due("he HAS all: which", x.oneMore(0, 0, 0), Edges.NONE);
            Edges.due("he HAS all: how many", x.oneMore(0, 0, 1), 100);
            x.move(0, 7);
            x.order(0, 12, 99);
            x.order(0, 21, 99);
            // Round and round: 1 to 7 and 2 to 7 would be behind.
            Edges.due("he HAS none: which", x.oneMore(1, 0, 0), Edges.NONE);
            Edges.due("he HAS none: how many", x.oneMore(1, 0, 1), 0);
        });
        Edges.edge(14, "one more than now is more", () -> {
            ThreeAddresses x = Edges.fresh();
            x.order(0, 10, 98);
            Edges.due("now", x.reaches(1, 0), 99);
            Edges.due("which", x.oneMore(1, 99, 0), 10);
            Edges.due("how many", x.oneMore(1, 99, 1), 100);
            Edges.due("which, from 0", x.oneMore(1, 0, 0), 10);
        });
        Edges.edge(14, "FIRST that DAY: on DAY 0, on DAY 99", () -> {
            ThreeAddresses x = Edges.fresh();
            x.move(0, 7);
            x.move(50, 6);
            // By 1 to 7 from 0 on: those of 0 .. 47 are there by 49. By 1 to 6 all.
            Edges.due("from 0", x.oneMore(1, 0, 0), 16);
            Edges.due("from 99", x.oneMore(1, 99, 0), 16);
            Edges.due("from 99: how many", x.oneMore(1, 99, 1), 100);
            x.order(0, 12, 90);
            // Behind that one: 1 to 6 serves 91 .. 99; 2 to 6 from 99 on serves 0 .. 90.
            Edges.due("from 99, from the second house", x.oneMore(1, 99, 0), 26);
            Edges.due("from 99, from the second house: how many", x.oneMore(1, 99, 1), 91);
        });
        Edges.edge(14, "FIRST that DAY: ahead of it the ORDER does not stand", () -> {
            ThreeAddresses x = Edges.fresh();
            x.move(50, 7);
            x.move(52, 6);
            x.order(0, 16, 5299);
            x.set(0, 0, 1);
            // Those to 1 wait till 52 by the ORDER there is: he HAS all.
            Edges.due("now", x.reaches(1, 0), 100);
            x.set(3, 0, 5);
            // They go to 5 from 52 on. One more 1 to 6 from 51 on takes those of 0 .. 51; 5 to 6 all that leave 5 by 99.
            Edges.due("from 51", x.oneMore(1, 51, 0), 56);
            Edges.due("from 51: how many", x.oneMore(1, 51, 1), 98);
            x.set(4, 0, 40);
            x.set(5, 0, 98);
            // From 40 to 98 to 5; one more 1 to 6 from 99 on takes that of 99 alone; 5 to 6 takes those of 0 .. 97.
            Edges.due("from 99", x.oneMore(1, 99, 0), 56);
            Edges.due("from 99: how many", x.oneMore(1, 99, 1), 98);
        });
        Edges.edge(14, "LAST 99: it sends on 99", () -> {
            ThreeAddresses x = Edges.fresh();
            Edges.due("that of 99, too", x.oneMore(1, 50, 1), 100);
        });
        Edges.edge(14, "plain: KIND 0", () -> timedOneMore("11", 61));
        Edges.edge(14, "plain: NUMBER 0", () -> timedOneMore("11+number*10", 61));
        Edges.edge(14, "behind all others: its number", () -> {
            timedOneMore("1+(order=1)*10", 61);
            timedOneMore("1+(order=0)*10+(order=2)*10", 51);
        });
        Edges.edge(14, "behind all others: those FROM there that SEND are first", () -> {
            ThreeAddresses x = Edges.fresh();
            x.order(0, 15, 4099);
            // 5 to 0 takes those that come to 5 by 99: 0 .. 97; 1 to 0 those of 0 .. 39.
            Edges.due("which", x.oneMore(1, 0, 0), 50);
            Edges.due("how many", x.oneMore(1, 0, 1), 98);
            x.set(4, 0, 99);
            Edges.due("which, where that one stands on 99 alone", x.oneMore(1, 0, 0), 10);
            Edges.due("how many then", x.oneMore(1, 0, 1), 99);
        });
    }

    /**
     * He lives in 0 till 49, in 7 from 50 on; what comes to 7 by 49 is sent to 6, and LOST.
     * So one more, 1 to 7, serves those that are there on 50 or later: it matters how long it takes.
     */
    private static void timedOneMore(String takes, int most) {
        ThreeAddresses x = Edges.fresh();
        x.move(50, 7);
        x.order(0, 76, 49);
        Edges.rule(x, "takes " + takes + ";costs 1;minds 1;");
        Edges.due("which, takes " + takes, x.oneMore(1, 0, 0), 17);
        Edges.due("how many, takes " + takes, x.oneMore(1, 0, 1), most);
    }

    private static void oneMoreOfLikeOnes() {
        Edges.edge(14, "of like ones the first: FROM", () -> {
            ThreeAddresses x = Edges.fresh();
            x.order(0, 56, 49);
            // 5 to 0 takes those of 50 .. 99, 6 to 0 those of 0 .. 49: 50 each.
            Edges.due("which", x.oneMore(5, 0, 0), 50);
            Edges.due("how many", x.oneMore(5, 0, 1), 50);
        });
        Edges.edge(14, "of like ones the first: TO", () -> {
            ThreeAddresses x = Edges.fresh();
            x.move(0, 2);
            x.order(0, 56, 5099);
            x.order(50, 12, 0);
            x.order(50, 42, 0);
            x.order(50, 67, 0);
            x.order(50, 76, 0);
            // 5 to 1, to 2, to 4 take those of 0 .. 49 each; others go round and round in 6 and 7.
            Edges.due("which", x.oneMore(5, 0, 0), 51);
            Edges.due("how many", x.oneMore(5, 0, 1), 50);
        });
        Edges.edge(14, "10 times FROM, and TO: the first and the last way", () -> {
            ThreeAddresses x = Edges.fresh();
            x.move(0, 1);
            Edges.due("0 to 1", x.oneMore(0, 0, 0), 1);
            ThreeAddresses y = Edges.fresh();
            y.move(0, 6);
            Edges.due("7 to 6", y.oneMore(7, 0, 0), 76);
            ThreeAddresses z = Edges.fresh();
            z.move(0, 7);
            Edges.due("0 to 7", z.oneMore(0, 0, 0), 7);
            Edges.due("6 to 7", z.oneMore(6, 0, 0), 67);
        });
    }

    /** Round and round in 1 and 2, a day each way, till it can leave 1 for 5, where he lives. */
    private static ThreeAddresses rounds(int first) {
        ThreeAddresses x = Edges.fresh();
        x.move(0, 5);
        x.order(0, 15, 100 * first + 99);
        x.order(0, 12, 99);
        x.order(0, 21, 99);
        Edges.rule(x, "takes 1;costs 1;minds 1;");
        return x;
    }

    private static void thicker() {
        Edges.edge(15, "BAD: a HOUSE below 0, above 7", () -> {
            for (int house : new int[] {Edges.LEAST, -1, 8, Edges.MOST}) {
                Edges.due("thicker(" + house + ")", Edges.fresh().thicker(house), Edges.BAD);
            }
        });
        Edges.edge(15, "BAD changes nothing", () ->
            Edges.refused("thicker(8)", Edges.BAD, x -> x.set(0, 0, 3), x -> x.thicker(8)));
        Edges.edge(15, "the least THICK (1 .. 20): 1, where he HAS none, where he HAS all", () -> {
            Edges.due("none", Edges.fresh().thicker(7), 1);
            Edges.due("all", Edges.fresh().thicker(0), 1);
        });
        Edges.edge(15, "the least THICK: 1, where 2 STAMPS are needed, the last to where he LIVES", () -> {
            Edges.due("thicker(2)", chain(9).thicker(2), 1);
            Edges.due("thicker(1)", chain(9).thicker(1), 2);
            Edges.due("thicker(3)", chain(9).thicker(3), 1);
        });
        Edges.edge(15, "the least THICK (1 .. 20): 20", () -> {
            // That of 0 is in 1 on 20 with 20 STAMPS; of those of 1 .. 20 none has more.
            Edges.due("till 20", rounds(20).thicker(1), 20);
            Edges.due("till 19", rounds(19).thicker(1), 20);
            Edges.due("till 18", rounds(18).thicker(1), 18);
        });
        Edges.edge(15, "as many as by 20: one by which 20 is too few does not count", () -> {
            // That of 0 has 22 STAMPS in 1 on 22; that of 2 has 20.
            Edges.due("till 22", rounds(22).thicker(1), 20);
            Edges.due("till 99", rounds(99).thicker(1), 20);
        });
        Edges.edge(15, "as many as by 20, whatever THICK is", () -> {
            ThreeAddresses x = rounds(10);
            for (int thick : new int[] {1, 9, 10, 20}) {
                x.set(0, 0, thick);
                Edges.due("thicker(1) with THICK " + thick, x.thicker(1), 10);
                Edges.due("THICK stays", x.count(2), thick);
            }
        });
        Edges.edge(15, "as many: one fewer is not as many", () -> {
            // Even DAYS alone are in 1 on even DAYS: to 11 that of 0 is there on 12, that of 1 on 11.
            Edges.due("till 11", rounds(11).thicker(1), 12);
            ThreeAddresses x = rounds(12);
            x.order(0, 26, 99);
            x.set(2, 2, 6);
            x.set(3, 2, 7);
            // No round any more: one that goes to 2 ahead of 12 is in 6 then, and LOST.
            Edges.due("no round", x.thicker(1), 1);
        });
    }
}
