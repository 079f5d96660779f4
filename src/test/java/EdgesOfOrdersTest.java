import java.util.function.Consumer;

/** Promises 1 to 7: each sentence of the document that names an edge of moves and orders, by a test of its own. */
public final class EdgesOfOrdersTest {
    public static void main(String[] args) {
        newObject();
        manyCalls();
        move();
        moveRefused();
        orderWhat();
        orderWay();
        orderDays();
        orderFull();
        orderRefused();
        setThick();
        setNumber();
        setHouses();
        setDays();
        setMove();
        setRefused();
        told();
        lives();
        sendsBad();
        sendsOnDays();
        sendsOddKinds();
        lasts();
        costs();
        Edges.end("orders");
    }

    private static void newObject() {
        Edges.edge(1, "No MOVES", () -> {
            ThreeAddresses x = Edges.fresh();
            Edges.due("count(1)", x.count(1), 0);
            Edges.due("told(0, 6)", x.told(0, 6), Edges.NO_SUCH);
            Edges.due("told(0, 8)", x.told(0, 8), Edges.NO_SUCH);
            Edges.due("lives(0)", x.lives(0), 0);
            Edges.due("lives(99)", x.lives(99), 0);
        });
        Edges.edge(1, "no ORDERS", () -> {
            ThreeAddresses x = Edges.fresh();
            Edges.due("count(0)", x.count(0), 0);
            Edges.due("told(0, 7)", x.told(0, 7), Edges.NO_SUCH);
            Edges.due("sends(0, 0, 0)", x.sends(0, 0, 0), Edges.BAD);
            Edges.due("taken(0, 0)", x.taken(0, 0), Edges.NOTHING);
            Edges.due("image()", x.image(), 0);
        });
        Edges.edge(1, "THICK: 9 at first", () -> {
            ThreeAddresses x = Edges.fresh();
            Edges.due("count(2)", x.count(2), 9);
            Edges.due("told(0, 0)", x.told(0, 0), 9);
        });
        Edges.edge(1, "TEXT 0, at first THE RULE, is: takes 2 ; costs 5 + long ; minds 10 ;", () -> {
            ThreeAddresses x = Edges.fresh();
            Edges.due("count(3)", x.count(3), 1);
            Edges.due("count(5)", x.count(5), 0);
            x.order(0, 12, 3040);
            Edges.due("takes", x.sends(0, 30, 1), 2);
            Edges.due("costs", x.sends(0, 30, 2), 15);
            Edges.due("minds", x.reaches(7, 2), 1000);
        });
        Edges.edge(1, "THE TAPE is empty", () -> {
            ThreeAddresses x = Edges.fresh();
            Edges.due("count(4)", x.count(4), 0);
            Edges.due("feed", x.feed(' '), 1);
        });
        Edges.edge(1, "SHEETS are missing, as all are at first", () -> {
            ThreeAddresses x = Edges.fresh();
            for (int sheet = 0; sheet < 4; sheet++) {
                Edges.due("cell(" + sheet + ", 0, 0)", x.cell(sheet, 0, 0), Edges.NOTHING);
                Edges.due("covers(" + sheet + ", 0)", x.covers(sheet, 0), Edges.NOTHING);
                Edges.due("orders(" + sheet + ", 0, 0, 0)", x.orders(sheet, 0, 0, 0), Edges.NOTHING);
            }
        });
        Edges.edge(1, "there is no IMAGE", () -> Edges.due("back()", Edges.fresh().back(), Edges.STATE));
        Edges.edge(1, "NONE is -1; BAD -2, STATE -3, FULL -4; NO -4611686018427387904", () -> {
            Edges.due("NONE", ThreeAddresses.NONE, -1);
            Edges.due("BAD", ThreeAddresses.BAD, -2);
            Edges.due("STATE", ThreeAddresses.STATE, -3);
            Edges.due("FULL", ThreeAddresses.FULL, -4);
            Edges.due("NO", ThreeAddresses.NO, -4611686018427387904L);
        });
        Edges.edge(1, "a new object, beside one that was used", () -> {
            ThreeAddresses used = Edges.fresh();
            fill(used, 3);
            used.move(5, 5);
            used.set(0, 0, 3);
            used.feed('x');
            used.sheet(0, 0, 4);
            used.image();
            ThreeAddresses x = Edges.fresh();
            int[] counts = {0, 0, 9, 1, 0, 0};
            for (int what = 0; what < 6; what++) {
                Edges.due("count(" + what + ")", x.count(what), counts[what]);
            }
            Edges.due("cell(0, 0, 0)", x.cell(0, 0, 0), Edges.NOTHING);
            Edges.due("back()", x.back(), Edges.STATE);
            Edges.due("lives(50)", x.lives(50), 0);
            Edges.due("a letter to 1", x.letter(1, 0, 2), 1);
        });
    }

    private static void manyCalls() {
        Edges.edge(1, "an object is used for at most 512 calls: the last 16 of these answer as the first", () -> {
            ThreeAddresses x = Edges.fresh();
            for (int round = 0; round < 32; round++) {
                int[] got = sixteenCalls(x);
                int[] want = {0, 0, 1, 9, 1, 1, 2, 100, 100, 1, 100, 10, 1, -100, 1, 0};
                for (int i = 0; i < 16; i++) {
                    Edges.due("call " + (16 * round + i + 1), got[i], want[i]);
                }
            }
        });
    }

    /** What the first of these calls keep is laid back by the last. */
    private static int[] sixteenCalls(ThreeAddresses x) {
        return new int[] {
            x.image(), x.order(0, 12, 99), x.move(0, 2), x.set(0, 0, 5), x.sheet(0, 2, 3), x.cell(0, 2, 7), x.film(1, 1, 0),
            x.covers(1, 0), x.reaches(1, 0), x.needless(1, 1), x.oneMore(1, 0, 1), x.drawn(1, 3), x.feed('t'), x.text(),
            x.count(0), x.back(),
        };
    }

    private static void fill(ThreeAddresses x, int n) {
        for (int i = 0; i < n; i++) {
            x.order(i, 12, 99);
        }
    }

    private static void moves(ThreeAddresses x, int n) {
        for (int i = 1; i <= n; i++) {
            x.move(10 * i, i);
        }
    }

    private static int moveFresh(int day, int house) {
        return Edges.fresh().move(day, house);
    }

    private static void move() {
        Edges.edge(2, "DAYS 0 .. 99: -1 is BAD", () -> Edges.due("move(-1, 1)", moveFresh(-1, 1), Edges.BAD));
        Edges.edge(2, "DAYS 0 .. 99: 0 is one", () -> Edges.due("move(0, 1)", moveFresh(0, 1), 1));
        Edges.edge(2, "DAYS 0 .. 99: 99 is one", () -> Edges.due("move(99, 1)", moveFresh(99, 1), 1));
        Edges.edge(2, "DAYS 0 .. 99: 100 is BAD", () -> Edges.due("move(100, 1)", moveFresh(100, 1), Edges.BAD));
        Edges.edge(2, "DAYS: the least and the most int are BAD", () -> {
            Edges.due("move(least, 1)", moveFresh(Edges.LEAST, 1), Edges.BAD);
            Edges.due("move(most, 1)", moveFresh(Edges.MOST, 1), Edges.BAD);
        });
        Edges.edge(2, "HOUSES 0 .. 7: -1 is BAD", () -> Edges.due("move(5, -1)", moveFresh(5, -1), Edges.BAD));
        Edges.edge(2, "HOUSES 0 .. 7: 0 is one", () -> Edges.due("move(5, 0)", moveFresh(5, 0), 1));
        Edges.edge(2, "HOUSES 0 .. 7: 7 is one", () -> Edges.due("move(5, 7)", moveFresh(5, 7), 1));
        Edges.edge(2, "HOUSES 0 .. 7: 8 is BAD", () -> Edges.due("move(5, 8)", moveFresh(5, 8), Edges.BAD));
        Edges.edge(2, "HOUSES: the least and the most int are BAD", () -> {
            Edges.due("move(5, least)", moveFresh(5, Edges.LEAST), Edges.BAD);
            Edges.due("move(5, most)", moveFresh(5, Edges.MOST), Edges.BAD);
        });
        Edges.edge(2, "STATE: its DAY isn't above that of the one ahead", () -> {
            ThreeAddresses x = Edges.fresh();
            x.move(50, 1);
            Edges.due("the same day", x.move(50, 2), Edges.STATE);
            Edges.due("the day ahead", x.move(49, 2), Edges.STATE);
            Edges.due("the first day", x.move(0, 2), Edges.STATE);
            Edges.due("the day behind", x.move(51, 2), 2);
            Edges.due("the same again", x.move(51, 2), Edges.STATE);
        });
        Edges.edge(2, "a DAY above that of the one ahead: of the last, not of the first", () -> {
            ThreeAddresses x = Edges.fresh();
            x.move(10, 1);
            x.move(20, 2);
            Edges.due("move(15, 3)", x.move(15, 3), Edges.STATE);
            Edges.due("move(20, 3)", x.move(20, 3), Edges.STATE);
        });
        Edges.edge(2, "the first MOVE has none ahead", () -> {
            ThreeAddresses x = Edges.fresh();
            Edges.due("move(0, 0)", x.move(0, 0), 1);
            Edges.due("move(99, 0), to where he is", x.move(99, 0), 2);
        });
        Edges.edge(2, "6 at most: FULL", () -> {
            ThreeAddresses x = Edges.fresh();
            for (int n = 1; n <= 6; n++) {
                Edges.due("move " + n, x.move(n, n), n);
            }
            Edges.due("a seventh", x.move(7, 7), Edges.FULL);
            Edges.due("count(1)", x.count(1), 6);
        });
    }

    private static void moveRefused() {
        Consumer<ThreeAddresses> some = x -> {
            moves(x, 3);
            fill(x, 2);
        };
        Consumer<ThreeAddresses> all = x -> {
            moves(x, 6);
            fill(x, 2);
        };
        Edges.edge(2, "BAD changes nothing", () -> {
            Edges.refused("move(40, 8)", Edges.BAD, some, x -> x.move(40, 8));
            Edges.refused("move(100, 4)", Edges.BAD, some, x -> x.move(100, 4));
        });
        Edges.edge(2, "STATE changes nothing", () ->
            Edges.refused("move(30, 4)", Edges.STATE, some, x -> x.move(30, 4)));
        Edges.edge(2, "FULL changes nothing", () ->
            Edges.refused("move(61, 4)", Edges.FULL, all, x -> x.move(61, 4)));
        Edges.edge(2, "the first that the words name: BAD ahead of STATE", () -> {
            Edges.refused("move(30, 8)", Edges.BAD, some, x -> x.move(30, 8));
            Edges.refused("move(-1, 1)", Edges.BAD, some, x -> x.move(-1, 1));
        });
        Edges.edge(2, "the first that the words name: BAD ahead of FULL", () ->
            Edges.refused("move(61, -1)", Edges.BAD, all, x -> x.move(61, -1)));
        Edges.edge(2, "the first that the words name: STATE ahead of FULL", () ->
            Edges.refused("move(60, 1)", Edges.STATE, all, x -> x.move(60, 1)));
    }

    private static int orderFresh(int what, int way, int days) {
        return Edges.fresh().order(what, way, days);
    }

    private static void orderWhat() {
        Edges.edge(3, "KIND 0 .. 5, NUMBER 0 .. 9: what 0 is KIND 0, NUMBER 0", () -> itIs(0, 12, 99, 0, 0, 1, 2, 0, 99));
        Edges.edge(3, "what 9 is KIND 0, NUMBER 9", () -> itIs(9, 12, 99, 0, 9, 1, 2, 0, 99));
        Edges.edge(3, "what 10 is KIND 1, NUMBER 0", () -> itIs(10, 12, 99, 1, 0, 1, 2, 0, 99));
        Edges.edge(3, "what 59 is KIND 5, NUMBER 9", () -> itIs(59, 12, 99, 5, 9, 1, 2, 0, 99));
        Edges.edge(3, "there is no KIND 6: BAD", () -> {
            Edges.due("order(60, ..)", orderFresh(60, 12, 99), Edges.BAD);
            Edges.due("order(69, ..)", orderFresh(69, 12, 99), Edges.BAD);
        });
        Edges.edge(3, "quotients are cut toward 0: what -1 .. -9 is KIND 0, its NUMBER is none: BAD", () -> {
            for (int what = -9; what < 0; what++) {
                Edges.due("order(" + what + ", ..)", orderFresh(what, 12, 99), Edges.BAD);
            }
        });
        Edges.edge(3, "a KIND below 0 is BAD", () -> Edges.due("order(-10, ..)", orderFresh(-10, 12, 99), Edges.BAD));
        Edges.edge(3, "what: the least and the most int are BAD", () -> {
            Edges.due("order(least, ..)", orderFresh(Edges.LEAST, 12, 99), Edges.BAD);
            Edges.due("order(most, ..)", orderFresh(Edges.MOST, 12, 99), Edges.BAD);
        });
    }

    /** An order on a new object, told part by part. */
    private static void itIs(int what, int way, int days, int... parts) {
        ThreeAddresses x = Edges.fresh();
        Edges.due("order(" + what + ", " + way + ", " + days + ")", x.order(what, way, days), 0);
        int[] whats = {7, 1, 2, 3, 4, 5};
        for (int i = 0; i < whats.length; i++) {
            Edges.due("told(0, " + whats[i] + ")", x.told(0, whats[i]), parts[i]);
        }
    }

    private static void orderWay() {
        Edges.edge(3, "way 1: FROM 0 TO 1", () -> itIs(0, 1, 99, 0, 0, 0, 1, 0, 99));
        Edges.edge(3, "way 7: FROM 0 TO 7", () -> itIs(0, 7, 99, 0, 0, 0, 7, 0, 99));
        Edges.edge(3, "way 70: FROM 7 TO 0", () -> itIs(0, 70, 99, 0, 0, 7, 0, 0, 99));
        Edges.edge(3, "TO is no HOUSE: BAD", () -> {
            Edges.due("way 8", orderFresh(0, 8, 99), Edges.BAD);
            Edges.due("way 9", orderFresh(0, 9, 99), Edges.BAD);
            Edges.due("way 78", orderFresh(0, 78, 99), Edges.BAD);
        });
        Edges.edge(3, "FROM is no HOUSE: BAD", () -> {
            Edges.due("way 80", orderFresh(0, 80, 99), Edges.BAD);
            Edges.due("way 87", orderFresh(0, 87, 99), Edges.BAD);
            Edges.due("way 100", orderFresh(0, 100, 99), Edges.BAD);
        });
        Edges.edge(3, "a way below 0 is BAD (quotients are cut toward 0)", () -> {
            Edges.due("way -1", orderFresh(0, -1, 99), Edges.BAD);
            Edges.due("way -10", orderFresh(0, -10, 99), Edges.BAD);
            Edges.due("way -9", orderFresh(0, -9, 99), Edges.BAD);
        });
        Edges.edge(3, "FROM a HOUSE TO another one: TO as FROM is BAD", () -> {
            for (int house = 0; house < 8; house++) {
                Edges.due("way " + 11 * house, orderFresh(0, 11 * house, 99), Edges.BAD);
            }
        });
        Edges.edge(3, "way: the least and the most int are BAD", () -> {
            Edges.due("way least", orderFresh(0, Edges.LEAST, 99), Edges.BAD);
            Edges.due("way most", orderFresh(0, Edges.MOST, 99), Edges.BAD);
        });
    }

    private static void orderDays() {
        Edges.edge(3, "days 0: FIRST 0, LAST 0", () -> itIs(0, 12, 0, 0, 0, 1, 2, 0, 0));
        Edges.edge(3, "days 99: FIRST 0, LAST 99", () -> itIs(0, 12, 99, 0, 0, 1, 2, 0, 99));
        Edges.edge(3, "days 9999: FIRST 99, LAST 99", () -> itIs(0, 12, 9999, 0, 0, 1, 2, 99, 99));
        Edges.edge(3, "LAST no less than FIRST: as FIRST is one", () -> itIs(0, 12, 5050, 0, 0, 1, 2, 50, 50));
        Edges.edge(3, "LAST no less than FIRST: else BAD", () -> {
            Edges.due("days 5049", orderFresh(0, 12, 5049), Edges.BAD);
            Edges.due("days 100", orderFresh(0, 12, 100), Edges.BAD);
            Edges.due("days 9998", orderFresh(0, 12, 9998), Edges.BAD);
        });
        Edges.edge(3, "DAYS 0 .. 99: FIRST 100 is BAD", () -> {
            Edges.due("days 10000", orderFresh(0, 12, 10000), Edges.BAD);
            Edges.due("days 10099", orderFresh(0, 12, 10099), Edges.BAD);
        });
        Edges.edge(3, "days below 0 are BAD (quotients are cut toward 0)", () -> {
            Edges.due("days -1", orderFresh(0, 12, -1), Edges.BAD);
            Edges.due("days -100", orderFresh(0, 12, -100), Edges.BAD);
            Edges.due("days -99", orderFresh(0, 12, -99), Edges.BAD);
        });
        Edges.edge(3, "days: the least and the most int are BAD", () -> {
            Edges.due("days least", orderFresh(0, 12, Edges.LEAST), Edges.BAD);
            Edges.due("days most", orderFresh(0, 12, Edges.MOST), Edges.BAD);
        });
    }

    private static void orderFull() {
        Edges.edge(3, "ORDERS (8 at most, numbered from 0): FULL", () -> {
            ThreeAddresses x = Edges.fresh();
            for (int i = 0; i < 8; i++) {
                Edges.due("order " + i, x.order(i, 12, 99), i);
            }
            Edges.due("a ninth", x.order(8, 12, 99), Edges.FULL);
            Edges.due("count(0)", x.count(0), 8);
            Edges.due("NUMBER of the last", x.told(7, 1), 7);
        });
        Edges.edge(3, "a refused ORDER takes no number", () -> {
            ThreeAddresses x = Edges.fresh();
            x.order(0, 12, 99);
            x.order(60, 12, 99);
            Edges.due("the next", x.order(0, 12, 99), 1);
        });
    }

    private static void orderRefused() {
        Consumer<ThreeAddresses> some = x -> {
            moves(x, 2);
            fill(x, 3);
        };
        Consumer<ThreeAddresses> all = x -> {
            moves(x, 2);
            fill(x, 8);
        };
        Edges.edge(3, "BAD changes nothing", () -> {
            Edges.refused("order(60, 21, 99)", Edges.BAD, some, x -> x.order(60, 21, 99));
            Edges.refused("order(0, 22, 99)", Edges.BAD, some, x -> x.order(0, 22, 99));
            Edges.refused("order(0, 21, 100)", Edges.BAD, some, x -> x.order(0, 21, 100));
        });
        Edges.edge(3, "FULL changes nothing", () ->
            Edges.refused("order(0, 21, 99)", Edges.FULL, all, x -> x.order(0, 21, 99)));
        Edges.edge(3, "the first that the words name: BAD ahead of FULL", () -> {
            Edges.refused("order(60, 21, 99)", Edges.BAD, all, x -> x.order(60, 21, 99));
            Edges.refused("order(0, 22, 99)", Edges.BAD, all, x -> x.order(0, 22, 99));
            Edges.refused("order(0, 21, 100)", Edges.BAD, all, x -> x.order(0, 21, 100));
        });
    }

    /** Two orders, two moves: order 0 FROM 2 TO 4, 30 to 40, NUMBER 3; order 1 FROM 1 TO 2, 0 to 99. */
    private static void two(ThreeAddresses x) {
        x.order(13, 24, 3040);
        x.order(5, 12, 99);
        x.move(50, 5);
        x.move(60, 6);
    }

    private static int setTwo(int what, int of, int v) {
        ThreeAddresses x = Edges.fresh();
        two(x);
        return x.set(what, of, v);
    }

    /** What was is answered, and what was set is told. */
    private static void sets(int what, int of, int v, int was) {
        ThreeAddresses x = Edges.fresh();
        two(x);
        String call = "set(" + what + ", " + of + ", " + v + ")";
        Edges.due(call, x.set(what, of, v), was);
        Edges.due(call + ", told", x.told(of, what), v);
        Edges.due(call + ", again", x.set(what, of, v), v);
    }

    private static void setThick() {
        Edges.edge(4, "THICK 1 .. 20: 0 is none such", () -> Edges.due("set(0, 0, 0)", setTwo(0, 0, 0), Edges.NO_SUCH));
        Edges.edge(4, "THICK 1 .. 20: 1 is one", () -> sets(0, 0, 1, 9));
        Edges.edge(4, "THICK 1 .. 20: 20 is one", () -> sets(0, 0, 20, 9));
        Edges.edge(4, "THICK 1 .. 20: 21 is none such", () -> Edges.due("set(0, 0, 21)", setTwo(0, 0, 21), Edges.NO_SUCH));
        Edges.edge(4, "THICK: below 0 and far above are none such", () -> {
            Edges.due("set(0, 0, -1)", setTwo(0, 0, -1), Edges.NO_SUCH);
            Edges.due("set(0, 0, least)", setTwo(0, 0, Edges.LEAST), Edges.NO_SUCH);
            Edges.due("set(0, 0, most)", setTwo(0, 0, Edges.MOST), Edges.NO_SUCH);
        });
        Edges.edge(4, "what 0; of does not matter", () -> {
            Edges.due("set(0, -1, 5)", setTwo(0, -1, 5), 9);
            Edges.due("set(0, 2, 5)", setTwo(0, 2, 5), 9);
            Edges.due("set(0, least, 5)", setTwo(0, Edges.LEAST, 5), 9);
            Edges.due("set(0, most, 5)", setTwo(0, Edges.MOST, 5), 9);
            Edges.due("set(0, 0, 5) where there is no order", Edges.fresh().set(0, 0, 5), 9);
        });
    }

    private static void setNumber() {
        Edges.edge(4, "NUMBER 0 .. 9: -1 is none such", () -> Edges.due("set(1, 0, -1)", setTwo(1, 0, -1), Edges.NO_SUCH));
        Edges.edge(4, "NUMBER 0 .. 9: 0 is one", () -> sets(1, 0, 0, 3));
        Edges.edge(4, "NUMBER 0 .. 9: 9 is one", () -> sets(1, 0, 9, 3));
        Edges.edge(4, "NUMBER 0 .. 9: 10 is none such", () -> Edges.due("set(1, 0, 10)", setTwo(1, 0, 10), Edges.NO_SUCH));
        Edges.edge(4, "of an ORDER: -1 is none such", () -> {
            for (int what = 1; what <= 5; what++) {
                Edges.due("set(" + what + ", -1, 5)", setTwo(what, -1, 5), Edges.NO_SUCH);
                Edges.due("set(" + what + ", least, 5)", setTwo(what, Edges.LEAST, 5), Edges.NO_SUCH);
            }
        });
        Edges.edge(4, "of an ORDER: the last there is", () -> sets(1, 1, 7, 5));
        Edges.edge(4, "of an ORDER: one behind the last is none such", () -> {
            for (int what = 1; what <= 5; what++) {
                Edges.due("set(" + what + ", 2, 5)", setTwo(what, 2, 5), Edges.NO_SUCH);
                Edges.due("set(" + what + ", 8, 5)", setTwo(what, 8, 5), Edges.NO_SUCH);
                Edges.due("set(" + what + ", most, 5)", setTwo(what, Edges.MOST, 5), Edges.NO_SUCH);
            }
        });
        Edges.edge(4, "of an ORDER, where there are none: none such", () -> {
            for (int what = 1; what <= 5; what++) {
                Edges.due("set(" + what + ", 0, 5)", Edges.fresh().set(what, 0, 5), Edges.NO_SUCH);
            }
        });
        Edges.edge(4, "what 0 .. 6: others are none such", () -> {
            for (int what : new int[] {Edges.LEAST, -1, 7, 8, 9, Edges.MOST}) {
                Edges.due("set(" + what + ", 0, 5)", setTwo(what, 0, 5), Edges.NO_SUCH);
            }
        });
    }

    private static void setHouses() {
        Edges.edge(4, "FROM a HOUSE: -1 and 8 are none such", () -> {
            Edges.due("set(2, 0, -1)", setTwo(2, 0, -1), Edges.NO_SUCH);
            Edges.due("set(2, 0, 8)", setTwo(2, 0, 8), Edges.NO_SUCH);
        });
        Edges.edge(4, "FROM a HOUSE: 0 and 7 are", () -> {
            sets(2, 0, 0, 2);
            sets(2, 0, 7, 2);
        });
        Edges.edge(4, "TO a HOUSE: -1 and 8 are none such", () -> {
            Edges.due("set(3, 0, -1)", setTwo(3, 0, -1), Edges.NO_SUCH);
            Edges.due("set(3, 0, 8)", setTwo(3, 0, 8), Edges.NO_SUCH);
        });
        Edges.edge(4, "TO a HOUSE: 0 and 7 are", () -> {
            sets(3, 0, 0, 4);
            sets(3, 0, 7, 4);
        });
        Edges.edge(4, "none such: FROM as TO, too", () -> {
            Edges.due("FROM as TO", setTwo(2, 0, 4), Edges.NO_SUCH);
            Edges.due("TO as FROM", setTwo(3, 0, 2), Edges.NO_SUCH);
            Edges.due("FROM as it is", setTwo(2, 0, 2), 2);
            Edges.due("TO as it is", setTwo(3, 0, 4), 4);
        });
    }

    private static void setDays() {
        Edges.edge(4, "FIRST a DAY: -1 is none such", () -> Edges.due("set(4, 0, -1)", setTwo(4, 0, -1), Edges.NO_SUCH));
        Edges.edge(4, "FIRST a DAY: 0 is one", () -> sets(4, 0, 0, 30));
        Edges.edge(4, "FIRST: as LAST is one", () -> sets(4, 0, 40, 30));
        Edges.edge(4, "none such: LAST would be below FIRST (FIRST is set)", () ->
            Edges.due("set(4, 0, 41)", setTwo(4, 0, 41), Edges.NO_SUCH));
        Edges.edge(4, "FIRST a DAY: 99 is one, 100 none such", () -> {
            sets(4, 1, 99, 0);
            Edges.due("set(4, 1, 100)", setTwo(4, 1, 100), Edges.NO_SUCH);
        });
        Edges.edge(4, "none such: LAST would be below FIRST (LAST is set)", () -> {
            Edges.due("set(5, 0, 29)", setTwo(5, 0, 29), Edges.NO_SUCH);
            Edges.due("set(5, 0, -1)", setTwo(5, 0, -1), Edges.NO_SUCH);
        });
        Edges.edge(4, "LAST: as FIRST is one", () -> sets(5, 0, 30, 40));
        Edges.edge(4, "LAST a DAY: 0 is one, where FIRST is 0; -1 is none such", () -> {
            sets(5, 1, 0, 99);
            Edges.due("set(5, 1, -1)", setTwo(5, 1, -1), Edges.NO_SUCH);
        });
        Edges.edge(4, "LAST a DAY: 99 is one", () -> sets(5, 0, 99, 40));
        Edges.edge(4, "LAST a DAY: 100 is none such", () -> Edges.due("set(5, 0, 100)", setTwo(5, 0, 100), Edges.NO_SUCH));
        Edges.edge(4, "what was set is what letters go by", () -> {
            ThreeAddresses x = Edges.fresh();
            x.move(0, 7);
            x.order(0, 17, 1020);
            Edges.due("on 30 it is lost", x.letter(1, 30, 0), 2);
            x.set(5, 0, 30);
            Edges.due("on 30, LAST 30", x.letter(1, 30, 0), 0);
            x.set(4, 0, 25);
            Edges.due("from 5 on it lies till 25", x.letter(1, 5, 1), 27);
            x.set(2, 0, 3);
            Edges.due("FROM 3: from 1 it is lost", x.letter(1, 5, 0), 2);
            Edges.due("FROM 3: from 3 it is sent", x.letter(3, 5, 1), 27);
            x.set(3, 0, 6);
            Edges.due("TO 6: it is lost there", x.letter(3, 5, 2), 6);
        });
    }

    private static void setMove() {
        Edges.edge(4, "the HOUSE of a MOVE: -1 and 8 are none such", () -> {
            Edges.due("set(6, 0, -1)", setTwo(6, 0, -1), Edges.NO_SUCH);
            Edges.due("set(6, 0, 8)", setTwo(6, 0, 8), Edges.NO_SUCH);
        });
        Edges.edge(4, "the HOUSE of a MOVE: 0 and 7 are", () -> {
            sets(6, 0, 0, 5);
            sets(6, 0, 7, 5);
        });
        Edges.edge(4, "of a MOVE: -1, and one behind the last, are none such", () -> {
            Edges.due("set(6, -1, 1)", setTwo(6, -1, 1), Edges.NO_SUCH);
            Edges.due("set(6, 2, 1)", setTwo(6, 2, 1), Edges.NO_SUCH);
            Edges.due("set(6, 6, 1)", setTwo(6, 6, 1), Edges.NO_SUCH);
            Edges.due("set(6, least, 1)", setTwo(6, Edges.LEAST, 1), Edges.NO_SUCH);
            Edges.due("set(6, most, 1)", setTwo(6, Edges.MOST, 1), Edges.NO_SUCH);
        });
        Edges.edge(4, "of a MOVE: the last there is", () -> sets(6, 1, 3, 6));
        Edges.edge(4, "of a MOVE, where there are none: none such", () ->
            Edges.due("set(6, 0, 1)", Edges.fresh().set(6, 0, 1), Edges.NO_SUCH));
        Edges.edge(4, "he LIVES where the MOVE goes now", () -> {
            ThreeAddresses x = Edges.fresh();
            two(x);
            x.set(6, 0, 3);
            Edges.due("lives(49)", x.lives(49), 0);
            Edges.due("lives(50)", x.lives(50), 3);
            Edges.due("lives(59)", x.lives(59), 3);
            Edges.due("lives(60)", x.lives(60), 6);
        });
    }

    private static void setRefused() {
        Edges.edge(4, "-100 changes nothing", () -> {
            int[][] calls = {
                {0, 0, 21}, {0, 0, 0}, {1, 0, 10}, {1, 0, -1}, {2, 0, 4}, {2, 0, 8}, {3, 0, 2}, {3, 0, -1},
                {4, 0, 41}, {4, 0, -1}, {5, 0, 29}, {5, 0, 100}, {6, 0, 8}, {6, 2, 1}, {7, 0, 2}, {8, 0, 2}, {1, 2, 1},
            };
            for (int[] c : calls) {
                String call = "set(" + c[0] + ", " + c[1] + ", " + c[2] + ")";
                Edges.refused(call, Edges.NO_SUCH, EdgesOfOrdersTest::two, x -> x.set(c[0], c[1], c[2]));
            }
        });
    }

    private static int toldTwo(int of, int what) {
        ThreeAddresses x = Edges.fresh();
        two(x);
        return x.told(of, what);
    }

    private static void told() {
        Edges.edge(5, "THICK is told of any", () -> {
            Edges.due("told(-1, 0)", toldTwo(-1, 0), 9);
            Edges.due("told(least, 0)", toldTwo(Edges.LEAST, 0), 9);
            Edges.due("told(most, 0)", toldTwo(Edges.MOST, 0), 9);
        });
        Edges.edge(5, "none such: what below 0, above 8", () -> {
            for (int what : new int[] {Edges.LEAST, -1, 9, 10, Edges.MOST}) {
                Edges.due("told(0, " + what + ")", toldTwo(0, what), Edges.NO_SUCH);
            }
        });
        Edges.edge(5, "the last ORDER, the last MOVE there are", () -> {
            int[] want = {9, 5, 1, 2, 0, 99, 6, 0, 60};
            for (int what = 0; what <= 8; what++) {
                Edges.due("told(1, " + what + ")", toldTwo(1, what), want[what]);
            }
        });
        Edges.edge(5, "none such: of below 0", () -> {
            for (int what = 1; what <= 8; what++) {
                Edges.due("told(-1, " + what + ")", toldTwo(-1, what), Edges.NO_SUCH);
                Edges.due("told(least, " + what + ")", toldTwo(Edges.LEAST, what), Edges.NO_SUCH);
            }
        });
        Edges.edge(5, "none such: of one behind the last", () -> {
            for (int what = 1; what <= 8; what++) {
                Edges.due("told(2, " + what + ")", toldTwo(2, what), Edges.NO_SUCH);
                Edges.due("told(8, " + what + ")", toldTwo(8, what), Edges.NO_SUCH);
                Edges.due("told(most, " + what + ")", toldTwo(Edges.MOST, what), Edges.NO_SUCH);
            }
        });
        Edges.edge(5, "none such: where there are none", () -> {
            for (int what = 1; what <= 8; what++) {
                Edges.due("told(0, " + what + ")", Edges.fresh().told(0, what), Edges.NO_SUCH);
            }
        });
        Edges.edge(5, "an ORDER's number is no MOVE's", () -> {
            ThreeAddresses x = Edges.fresh();
            fill(x, 2);
            x.move(3, 4);
            Edges.due("told(1, 6)", x.told(1, 6), Edges.NO_SUCH);
            Edges.due("told(1, 8)", x.told(1, 8), Edges.NO_SUCH);
            Edges.due("told(1, 7)", x.told(1, 7), 0);
            ThreeAddresses y = Edges.fresh();
            moves(y, 2);
            y.order(0, 12, 99);
            Edges.due("told(1, 7)", y.told(1, 7), Edges.NO_SUCH);
            Edges.due("told(1, 8)", y.told(1, 8), 20);
        });
    }

    private static void lives() {
        Edges.edge(6, "BAD: a DAY below 0", () -> {
            Edges.due("lives(-1)", Edges.fresh().lives(-1), Edges.BAD);
            Edges.due("lives(least)", Edges.fresh().lives(Edges.LEAST), Edges.BAD);
        });
        Edges.edge(6, "BAD: a DAY above 99", () -> {
            Edges.due("lives(100)", Edges.fresh().lives(100), Edges.BAD);
            Edges.due("lives(most)", Edges.fresh().lives(Edges.MOST), Edges.BAD);
        });
        Edges.edge(6, "ahead of all in HOUSE 0", () -> {
            ThreeAddresses x = Edges.fresh();
            x.move(99, 3);
            Edges.due("lives(0)", x.lives(0), 0);
            Edges.due("lives(98)", x.lives(98), 0);
            Edges.due("lives(99)", x.lives(99), 3);
        });
        Edges.edge(6, "the HOUSE of the last MOVE on that DAY or ahead of it", () -> {
            ThreeAddresses x = Edges.fresh();
            x.move(0, 4);
            x.move(1, 5);
            x.move(50, 6);
            Edges.due("lives(0)", x.lives(0), 4);
            Edges.due("lives(1)", x.lives(1), 5);
            Edges.due("lives(49)", x.lives(49), 5);
            Edges.due("lives(50)", x.lives(50), 6);
            Edges.due("lives(99)", x.lives(99), 6);
        });
    }

    private static int sendsTwo(int order, int day, int what) {
        ThreeAddresses x = Edges.fresh();
        two(x);
        return x.sends(order, day, what);
    }

    private static void sendsBad() {
        Edges.edge(7, "BAD: no such ORDER", () -> {
            for (int what = 0; what < 3; what++) {
                for (int order : new int[] {Edges.LEAST, -1, 2, 8, Edges.MOST}) {
                    Edges.due("sends(" + order + ", 30, " + what + ")", sendsTwo(order, 30, what), Edges.BAD);
                }
            }
        });
        Edges.edge(7, "the last ORDER there is", () -> Edges.due("sends(1, 30, 0)", sendsTwo(1, 30, 0), 1));
        Edges.edge(7, "BAD: a DAY below 0", () -> {
            for (int what = 0; what < 2; what++) {
                Edges.due("sends(0, -1, " + what + ")", sendsTwo(0, -1, what), Edges.BAD);
                Edges.due("sends(0, least, " + what + ")", sendsTwo(0, Edges.LEAST, what), Edges.BAD);
            }
        });
        Edges.edge(7, "BAD: a DAY above 99", () -> {
            for (int what = 0; what < 2; what++) {
                Edges.due("sends(0, 100, " + what + ")", sendsTwo(0, 100, what), Edges.BAD);
                Edges.due("sends(0, most, " + what + ")", sendsTwo(0, Edges.MOST, what), Edges.BAD);
            }
        });
        Edges.edge(7, "costs; the DAY does not matter", () -> {
            for (int day : new int[] {Edges.LEAST, -1, 0, 99, 100, Edges.MOST}) {
                Edges.due("sends(0, " + day + ", 2)", sendsTwo(0, day, 2), 15);
            }
        });
        Edges.edge(7, "BAD: what is 0 .. 2", () -> {
            for (int what : new int[] {Edges.LEAST, -1, 3, Edges.MOST}) {
                Edges.due("sends(0, 30, " + what + ")", sendsTwo(0, 30, what), Edges.BAD);
            }
        });
        Edges.edge(7, "BAD changes nothing", () -> {
            Edges.refused("sends(0, 100, 0)", Edges.BAD, EdgesOfOrdersTest::two, x -> x.sends(0, 100, 0));
            Edges.refused("sends(2, 0, 1)", Edges.BAD, EdgesOfOrdersTest::two, x -> x.sends(2, 0, 1));
        });
    }

    /** On which of some days an order sends, as 1 and 0. */
    private static void sendsOn(int what, int days, int[] asked, String want) {
        ThreeAddresses x = Edges.fresh();
        Edges.due("order(" + what + ", 12, " + days + ")", x.order(what, 12, days), 0);
        for (int i = 0; i < asked.length; i++) {
            Edges.due("order(" + what + ", 12, " + days + ") on " + asked[i], x.sends(0, asked[i], 0), want.charAt(i) - '0');
        }
    }

    private static void sendsOnDays() {
        int[] edges = {0, 9, 10, 11, 19, 20, 21, 99};
        Edges.edge(7, "ORDER: if d is FIRST .. LAST", () -> {
            sendsOn(0, 1020, edges, "00111100");
            sendsOn(9, 1020, edges, "00111100");
            sendsOn(0, 1010, edges, "00100000");
            sendsOn(0, 99, edges, "11111111");
            sendsOn(0, 0, edges, "10000000");
            sendsOn(0, 9999, edges, "00000001");
        });
        Edges.edge(7, "SLOW: as an ORDER", () -> {
            sendsOn(10, 1020, edges, "00111100");
            sendsOn(19, 1020, edges, "00111100");
            sendsOn(19, 1010, edges, "00100000");
        });
        Edges.edge(7, "NOW AND THEN: if d modulo (NUMBER and 1) is 0, else not", () -> {
            sendsOn(20, 1020, edges, "00111100");
            sendsOn(21, 1020, edges, "00100100");
            sendsOn(29, 1020, edges, "00100100");
            sendsOn(29, 99, edges, "10100100");
            sendsOn(22, 99, new int[] {0, 1, 2, 3, 4, 97, 98, 99}, "10010001");
        });
        Edges.edge(7, "NOW AND THEN, NUMBER 0: each of its DAYS", () -> sendsOn(20, 1011, new int[] {9, 10, 11, 12}, "0110"));
        Edges.edge(7, "BY SHIP: not on the first of these DAYS", () -> {
            sendsOn(30, 1020, edges, "00011100");
            sendsOn(39, 1020, edges, "00011100");
            sendsOn(30, 99, edges, "01111111");
        });
        Edges.edge(7, "BY SHIP, FIRST as LAST: on no DAY", () -> {
            sendsOn(30, 1010, edges, "00000000");
            sendsOn(30, 0, edges, "00000000");
            sendsOn(30, 9999, edges, "00000000");
        });
    }

    private static void sendsOddKinds() {
        Edges.edge(7, "KIND ONE: as a NOW AND THEN", () ->
            sendsOn(42, 1020, new int[] {0, 6, 9, 10, 11, 12, 15, 18, 20}, "000001110"));
        Edges.edge(7, "KIND ONE: if d is above LAST, but not above LAST and NUMBER, together", () -> {
            sendsOn(42, 1020, new int[] {19, 20, 21, 22, 23, 24}, "001100");
            sendsOn(49, 1020, new int[] {20, 21, 29, 30}, "1110");
            sendsOn(41, 1020, new int[] {20, 21, 22}, "110");
        });
        Edges.edge(7, "KIND ONE, NUMBER 0: not above LAST", () ->
            sendsOn(40, 1020, new int[] {9, 10, 11, 20, 21}, "01110"));
        Edges.edge(7, "KIND ONE: LAST and NUMBER, together, above 99", () -> {
            sendsOn(49, 1097, new int[] {96, 97, 98, 99}, "0011");
            sendsOn(49, 9999, new int[] {89, 90, 98, 99}, "0000");
        });
        Edges.edge(7, "FOR GOOD: if d is FIRST or more", () -> {
            sendsOn(50, 1020, new int[] {0, 9, 10, 20, 21, 99}, "001111");
            sendsOn(59, 1010, new int[] {9, 10, 11, 99}, "0111");
            sendsOn(50, 9999, new int[] {0, 98, 99}, "001");
            sendsOn(50, 0, new int[] {0, 1, 99}, "111");
        });
    }

    /** What an order of 10 times KIND, and NUMBER, lasts by takes E on a day. */
    private static int lasting(int what, String e, int day) {
        ThreeAddresses x = Edges.fresh();
        x.order(what, 31, 2030);
        Edges.rule(x, "takes " + e + ";costs 0;minds 0;");
        return x.sends(0, day, 1);
    }

    private static void lasts() {
        Edges.edge(7, "takes: 1 .. 40, else the bound: below 1", () -> {
            Edges.due("takes 0", lasting(0, "0", 0), 1);
            Edges.due("takes 1", lasting(0, "1", 0), 1);
            Edges.due("takes 2", lasting(0, "2", 0), 2);
            Edges.due("takes -9999", lasting(0, "-9999", 0), 1);
            Edges.due("takes the least int", lasting(0, "-256*256*256*128", 0), 1);
        });
        Edges.edge(7, "takes: 1 .. 40, else the bound: above 40", () -> {
            Edges.due("takes 39", lasting(0, "39", 0), 39);
            Edges.due("takes 40", lasting(0, "40", 0), 40);
            Edges.due("takes 41", lasting(0, "41", 0), 40);
            Edges.due("takes 9999", lasting(0, "9999", 0), 40);
            Edges.due("takes the most int", lasting(0, "256*256*256*128-1", 0), 40);
        });
        Edges.edge(7, "ORDER: v, whatever its NUMBER", () -> Edges.due("NUMBER 9", lasting(9, "2", 0), 2));
        Edges.edge(7, "SLOW: NUMBER more than an ORDER", () -> {
            Edges.due("NUMBER 0", lasting(10, "2", 0), 2);
            Edges.due("NUMBER 9", lasting(19, "2", 0), 11);
            Edges.due("above 40 in the end", lasting(19, "99", 0), 49);
            Edges.due("the bound comes ahead", lasting(15, "-100", 0), 6);
        });
        Edges.edge(7, "NOW AND THEN: as an ORDER", () -> {
            Edges.due("NUMBER 9", lasting(29, "2", 0), 2);
            Edges.due("bound below", lasting(29, "-3", 0), 1);
        });
        Edges.edge(7, "BY SHIP: twice a SLOW's", () -> {
            Edges.due("NUMBER 0", lasting(30, "2", 0), 4);
            Edges.due("NUMBER 9", lasting(39, "2", 0), 22);
            Edges.due("the most", lasting(39, "40", 0), 98);
            Edges.due("the least", lasting(30, "0", 0), 2);
        });
        Edges.edge(7, "KIND ONE: 1 more than a NOW AND THEN", () -> {
            Edges.due("NUMBER 0", lasting(40, "2", 0), 3);
            Edges.due("NUMBER 9", lasting(49, "2", 0), 3);
            Edges.due("the most", lasting(49, "41", 0), 41);
            Edges.due("the least", lasting(40, "-1", 0), 2);
        });
        Edges.edge(7, "FOR GOOD: as an ORDER", () -> Edges.due("NUMBER 9", lasting(59, "2", 0), 2));
        Edges.edge(7, "LASTS of a letter with no STAMPS, just written", () -> {
            Edges.due("stamps, long are 0", lasting(0, "7+stamps*9+long*9", 50), 7);
            Edges.due("day 0", lasting(0, "5+day", 0), 5);
            Edges.due("day 30", lasting(0, "5+day", 30), 35);
            Edges.due("day 99, on which it does not send", lasting(0, "day-90", 99), 9);
            Edges.due("house is FROM", lasting(0, "house", 0), 3);
            Edges.due("number", lasting(8, "number", 0), 8);
            Edges.due("order is 0", lasting(8, "order+4", 0), 4);
        });
        Edges.edge(7, "order: the number of the ORDER, the last of 8", () -> {
            ThreeAddresses x = Edges.fresh();
            fill(x, 8);
            Edges.rule(x, "takes 10+order;costs 20+order;minds 0;");
            Edges.due("sends(7, 0, 1)", x.sends(7, 0, 1), 17);
            Edges.due("sends(7, 0, 2)", x.sends(7, 0, 2), 27);
        });
    }

    /** What an order (NUMBER 4, FROM 3 TO 1, 20 to 35) costs by an E. */
    private static int costing(String e) {
        ThreeAddresses x = Edges.fresh();
        x.order(4, 31, 2035);
        Edges.rule(x, "takes 1;costs " + e + ";minds 0;");
        return x.sends(0, 99, 2);
    }

    private static void costs() {
        Edges.edge(7, "costs: 0 .. 99, else the bound: below 0", () -> {
            Edges.due("costs 0", costing("0"), 0);
            Edges.due("costs -1", costing("-1"), 0);
            Edges.due("costs 1", costing("1"), 1);
            Edges.due("costs the least int", costing("-256*256*256*128"), 0);
        });
        Edges.edge(7, "costs: 0 .. 99, else the bound: above 99", () -> {
            Edges.due("costs 98", costing("98"), 98);
            Edges.due("costs 99", costing("99"), 99);
            Edges.due("costs 100", costing("100"), 99);
            Edges.due("costs the most int", costing("256*256*256*128-1"), 99);
        });
        Edges.edge(7, "costs: day: FIRST; house: FROM; long: LAST less FIRST; stamps 0", () -> {
            Edges.due("day", costing("day"), 20);
            Edges.due("house", costing("house"), 3);
            Edges.due("long", costing("long"), 15);
            Edges.due("stamps", costing("stamps+1"), 1);
            Edges.due("number", costing("number"), 4);
            Edges.due("order", costing("order+1"), 1);
        });
        Edges.edge(7, "costs, FIRST as LAST: long 0", () -> {
            ThreeAddresses x = Edges.fresh();
            x.order(0, 12, 5050);
            Edges.due("costs", x.sends(0, 0, 2), 5);
        });
        Edges.edge(7, "costs by TEXT 0: 5 and 94 is 99, 95 is above it", () -> {
            ThreeAddresses x = Edges.fresh();
            x.order(0, 12, 94);
            x.order(0, 12, 95);
            x.order(0, 12, 93);
            Edges.due("long 94", x.sends(0, 0, 2), 99);
            Edges.due("long 95", x.sends(1, 0, 2), 99);
            Edges.due("long 93", x.sends(2, 0, 2), 98);
        });
    }
}
