import java.util.function.Consumer;

/** Promises 23 to 27: each sentence of the document that names an edge of the host's calls, by a test of its own. */
public final class EdgesOfHostTest {
    public static void main(String[] args) {
        sheetRefused();
        sheet();
        cellRefused();
        cell();
        copyRefused();
        copyOutside();
        copy();
        ordersRefused();
        ordersOutside();
        orders();
        ordersOfBytes();
        taken();
        takenKinds();
        Edges.end("host");
    }

    /** Sheet 0 has 3 bytes, sheet 1 has 4 shorts, sheet 2 has 5 ints, sheet 3 is missing. */
    private static void three(ThreeAddresses x) {
        x.move(0, 3);
        x.order(0, 12, 99);
        x.order(0, 23, 99);
        Edges.row(x, 0, 0, 1, 2, 3);
        Edges.row(x, 1, 1, 2, 3, 4, 5);
        Edges.row(x, 2, 2, 1, 2, 3, 4, 5);
    }

    private static ThreeAddresses made() {
        ThreeAddresses x = Edges.fresh();
        three(x);
        return x;
    }

    private static void sheetRefused() {
        Edges.edge(23, "BAD: no such SHEET", () -> {
            for (int sheet : new int[] {Edges.LEAST, -1, 4, Edges.MOST}) {
                for (int sort = -1; sort <= 2; sort++) {
                    Edges.due("sheet(" + sheet + ", " + sort + ", 1)", made().sheet(sheet, sort, 1), Edges.BAD);
                }
            }
        });
        Edges.edge(23, "BAD: no such sort", () -> {
            for (int sort : new int[] {Edges.LEAST, -2, 3, Edges.MOST}) {
                Edges.due("sheet(0, " + sort + ", 1)", made().sheet(0, sort, 1), Edges.BAD);
            }
        });
        Edges.edge(23, "BAD: n above 40", () -> {
            for (int sort = 0; sort <= 2; sort++) {
                Edges.due("sheet(0, " + sort + ", 41)", made().sheet(0, sort, 41), Edges.BAD);
                Edges.due("sheet(0, " + sort + ", most)", made().sheet(0, sort, Edges.MOST), Edges.BAD);
            }
        });
        Edges.edge(23, "-14: a size below 0", () -> {
            for (int sort = 0; sort <= 2; sort++) {
                Edges.due("sheet(0, " + sort + ", -1)", made().sheet(0, sort, -1), Edges.BELOW);
                Edges.due("sheet(0, " + sort + ", least)", made().sheet(0, sort, Edges.LEAST), Edges.BELOW);
            }
        });
        Edges.edge(23, "the first that the words name: BAD ahead of -14", () -> {
            Edges.due("no such SHEET", made().sheet(4, 0, -1), Edges.BAD);
            Edges.due("no such sort", made().sheet(0, 3, -1), Edges.BAD);
            Edges.due("no such sort below", made().sheet(0, -2, -1), Edges.BAD);
        });
        Edges.edge(23, "BAD and -14 change nothing", () -> {
            Edges.refused("sheet(0, 3, 1)", Edges.BAD, EdgesOfHostTest::three, x -> x.sheet(0, 3, 1));
            Edges.refused("sheet(0, 1, 41)", Edges.BAD, EdgesOfHostTest::three, x -> x.sheet(0, 1, 41));
            Edges.refused("sheet(0, 1, -1)", Edges.BELOW, EdgesOfHostTest::three, x -> x.sheet(0, 1, -1));
            Edges.refused("sheet(3, 0, -1)", Edges.BELOW, EdgesOfHostTest::three, x -> x.sheet(3, 0, -1));
            Edges.refused("sheet(4, -1, 0)", Edges.BAD, EdgesOfHostTest::three, x -> x.sheet(4, -1, 0));
        });
    }

    private static void sheet() {
        Edges.edge(23, "a row of n: 0, 1, 40, of each sort", () -> {
            for (int sort = 0; sort <= 2; sort++) {
                for (int n : new int[] {0, 1, 40}) {
                    ThreeAddresses x = Edges.fresh();
                    Edges.due("sheet(3, " + sort + ", " + n + ")", x.sheet(3, sort, n), 1);
                    Edges.due("its size", Edges.size(x, 3), n);
                    Edges.due("its sort", Edges.sort(x, 3), sort);
                }
            }
        });
        Edges.edge(23, "all 0, where it was not", () -> {
            for (int sort = 0; sort <= 2; sort++) {
                ThreeAddresses x = Edges.fresh();
                Edges.row(x, 0, sort, 7, 7);
                x.sheet(0, sort, 2);
                x.order(0, 70, 99);
                // Each item is told by a row of its own: a letter to 0 is in 0 alone, one to 7 goes on.
                x.sheet(1, sort, 1);
                x.copy(0, 0, 1, 0, 1);
                Edges.due("item 0, sort " + sort, x.covers(1, 0), 100);
                Edges.row(x, 1, sort, 7);
                x.copy(0, 1, 1, 0, 1);
                Edges.due("item 1, sort " + sort, x.covers(1, 0), 100);
            }
        });
        Edges.edge(23, "all 0, where it was longer, shorter, of another sort", () -> {
            ThreeAddresses x = made();
            x.sheet(2, 2, 1);
            // A letter to 0 lies there till it is LOST; none to 1 does.
            Edges.due("1 of 5 ints", x.covers(2, 0), 100);
            x.cell(2, 0, 1);
            x.sheet(2, 0, 1);
            Edges.due("a byte", x.covers(2, 0), 100);
            x.sheet(2, 2, 5);
            x.cell(2, 0, 1);
            x.cell(2, 1, 2);
            x.cell(2, 2, 3);
            Edges.due("5 again: 1 2 3 0 0", x.covers(2, 0), 0);
            x.sheet(0, 2, 3);
            Edges.due("no ORDER by 0 0 0", x.orders(0, 2, 0, 1), 0);
        });
        Edges.edge(23, "missing (sort -1: n does not matter)", () -> {
            for (int n : new int[] {Edges.LEAST, -1, 0, 40, 41, Edges.MOST}) {
                ThreeAddresses x = made();
                Edges.due("sheet(2, -1, " + n + ")", x.sheet(2, -1, n), 1);
                Edges.due("it is missing", x.cell(2, 0, 0), Edges.NOTHING);
                Edges.due("another is not", x.cell(1, 0, 0), 1);
            }
        });
        Edges.edge(23, "missing, where it was missing", () -> {
            ThreeAddresses x = made();
            Edges.due("sheet(3, -1, 0)", x.sheet(3, -1, 0), 1);
            Edges.due("cell(3, 0, 0)", x.cell(3, 0, 0), Edges.NOTHING);
        });
    }

    private static void cellRefused() {
        Edges.edge(24, "BAD: no such SHEET", () -> {
            for (int sheet : new int[] {Edges.LEAST, -1, 4, Edges.MOST}) {
                Edges.due("cell(" + sheet + ", 0, 0)", made().cell(sheet, 0, 0), Edges.BAD);
            }
        });
        Edges.edge(24, "-11: it is missing", () -> Edges.due("cell(3, 0, 0)", made().cell(3, 0, 0), Edges.NOTHING));
        Edges.edge(24, "-12: below 0", () -> {
            for (int sheet = 0; sheet < 3; sheet++) {
                Edges.due("cell(" + sheet + ", -1, 0)", made().cell(sheet, -1, 0), Edges.OUTSIDE);
                Edges.due("cell(" + sheet + ", least, 0)", made().cell(sheet, Edges.LEAST, 0), Edges.OUTSIDE);
            }
        });
        Edges.edge(24, "-12: behind the last item", () -> {
            for (int sheet = 0; sheet < 3; sheet++) {
                int n = 3 + sheet;
                Edges.due("cell(" + sheet + ", " + (n - 1) + ", 0)", made().cell(sheet, n - 1, 0), 1);
                Edges.due("cell(" + sheet + ", " + n + ", 0)", made().cell(sheet, n, 0), Edges.OUTSIDE);
                Edges.due("cell(" + sheet + ", most, 0)", made().cell(sheet, Edges.MOST, 0), Edges.OUTSIDE);
            }
        });
        Edges.edge(24, "-12: an empty row has no item, one of 40 has the 40th", () -> {
            ThreeAddresses x = Edges.fresh();
            x.sheet(0, 0, 0);
            Edges.due("cell(0, 0, 0)", x.cell(0, 0, 0), Edges.OUTSIDE);
            x.sheet(0, 2, 40);
            Edges.due("cell(0, 39, 0)", x.cell(0, 39, 0), 1);
            Edges.due("cell(0, 40, 0)", x.cell(0, 40, 0), Edges.OUTSIDE);
        });
        Edges.edge(24, "the first that the words name: -11 ahead of -12", () -> {
            Edges.due("cell(3, -1, 0)", made().cell(3, -1, 0), Edges.NOTHING);
            Edges.due("cell(3, 40, 0)", made().cell(3, 40, 0), Edges.NOTHING);
        });
        Edges.edge(24, "BAD, -11 and -12 change nothing", () -> {
            Edges.refused("cell(4, 0, 7)", Edges.BAD, EdgesOfHostTest::three, x -> x.cell(4, 0, 7));
            Edges.refused("cell(3, 0, 7)", Edges.NOTHING, EdgesOfHostTest::three, x -> x.cell(3, 0, 7));
            Edges.refused("cell(0, 3, 7)", Edges.OUTSIDE, EdgesOfHostTest::three, x -> x.cell(0, 3, 7));
            Edges.refused("cell(0, -1, 7)", Edges.OUTSIDE, EdgesOfHostTest::three, x -> x.cell(0, -1, 7));
        });
    }

    /** What an item of a sort holds that became v, read back as an order's KIND and NUMBER; NONE if no order came. */
    private static int holds(int sort, int v) {
        ThreeAddresses x = Edges.fresh();
        Edges.row(x, 0, sort, v, 12, 99);
        if (x.orders(0, sort, 0, 1) != 1) {
            return Edges.NONE;
        }
        return 10 * x.told(0, 7) + x.told(0, 1);
    }

    private static void cell() {
        Edges.edge(24, "of bytes its lowest 8 bits", () -> {
            Edges.due("59", holds(0, 59), 59);
            Edges.due("256 and 43", holds(0, 256 + 43), 43);
            Edges.due("-256 and 43", holds(0, -256 + 43), 43);
            Edges.due("65536 and 43", holds(0, 65536 + 43), 43);
            Edges.due("least and 43", holds(0, Edges.LEAST + 43), 43);
            Edges.due("most: -1", holds(0, Edges.MOST), Edges.NONE);
        });
        Edges.edge(24, "of shorts its lowest 16 bits", () -> {
            Edges.due("59", holds(1, 59), 59);
            Edges.due("65536 and 43", holds(1, 65536 + 43), 43);
            Edges.due("-65536 and 43", holds(1, -65536 + 43), 43);
            Edges.due("256 and 43 is whole", holds(1, 256 + 43), Edges.NONE);
            Edges.due("least and 43", holds(1, Edges.LEAST + 43), 43);
            Edges.due("most: -1", holds(1, Edges.MOST), Edges.NONE);
        });
        Edges.edge(24, "of ints all of it", () -> {
            Edges.due("59", holds(2, 59), 59);
            Edges.due("65536 and 43", holds(2, 65536 + 43), Edges.NONE);
            Edges.due("256 and 43", holds(2, 256 + 43), Edges.NONE);
            Edges.due("least and 43", holds(2, Edges.LEAST + 43), Edges.NONE);
        });
        Edges.edge(24, "the first item and the last, and no other", () -> {
            ThreeAddresses x = made();
            Edges.due("cell(2, 0, 9)", x.cell(2, 0, 9), 1);
            Edges.due("cell(2, 4, 9)", x.cell(2, 4, 9), 1);
            x.sheet(3, 2, 3);
            x.copy(2, 1, 3, 0, 3);
            x.set(6, 0, 4);
            x.order(0, 34, 99);
            Edges.due("2 3 4 are as they were", x.covers(3, 0), 98);
        });
    }

    private static void copyRefused() {
        Edges.edge(25, "BAD: no such SHEET", () -> {
            for (int sheet : new int[] {Edges.LEAST, -1, 4, Edges.MOST}) {
                Edges.due("copy(" + sheet + ", 0, 0, 0, 0)", made().copy(sheet, 0, 0, 0, 0), Edges.BAD);
                Edges.due("copy(0, 0, " + sheet + ", 0, 0)", made().copy(0, 0, sheet, 0, 0), Edges.BAD);
            }
        });
        Edges.edge(25, "-11: one of them is missing", () -> {
            Edges.due("copy(3, 0, 0, 0, 1)", made().copy(3, 0, 0, 0, 1), Edges.NOTHING);
            Edges.due("copy(0, 0, 3, 0, 1)", made().copy(0, 0, 3, 0, 1), Edges.NOTHING);
            Edges.due("copy(3, 0, 3, 0, 0)", made().copy(3, 0, 3, 0, 0), Edges.NOTHING);
            Edges.due("copy(3, 0, 0, 0, 0)", made().copy(3, 0, 0, 0, 0), Edges.NOTHING);
        });
        Edges.edge(25, "-13: they are of unlike sorts", () -> {
            for (int a = 0; a < 3; a++) {
                for (int b = 0; b < 3; b++) {
                    Edges.due("copy(" + a + ", 0, " + b + ", 0, 1)", made().copy(a, 0, b, 0, 1), a == b ? 1 : Edges.OTHER);
                    Edges.due("copy(" + a + ", 0, " + b + ", 0, 0)", made().copy(a, 0, b, 0, 0), a == b ? 0 : Edges.OTHER);
                }
            }
        });
        Edges.edge(25, "the first that the words name: BAD ahead of -11", () -> {
            Edges.due("copy(3, 0, 4, 0, 0)", made().copy(3, 0, 4, 0, 0), Edges.BAD);
            Edges.due("copy(4, 0, 3, 0, 0)", made().copy(4, 0, 3, 0, 0), Edges.BAD);
        });
        Edges.edge(25, "the first that the words name: -11 ahead of -12", () -> {
            Edges.due("copy(3, -1, 0, 0, 1)", made().copy(3, -1, 0, 0, 1), Edges.NOTHING);
            Edges.due("copy(0, 9, 3, 9, -1)", made().copy(0, 9, 3, 9, -1), Edges.NOTHING);
        });
        Edges.edge(25, "the first that the words name: -13 ahead of -12", () -> {
            Edges.due("copy(0, -1, 1, 0, 1)", made().copy(0, -1, 1, 0, 1), Edges.OTHER);
            Edges.due("copy(0, 0, 1, 9, 1)", made().copy(0, 0, 1, 9, 1), Edges.OTHER);
            Edges.due("copy(0, 0, 1, 0, -1)", made().copy(0, 0, 1, 0, -1), Edges.OTHER);
        });
        Edges.edge(25, "BAD, -11, -13 and -12 change nothing", () -> {
            Edges.refused("copy(0, 0, 4, 0, 1)", Edges.BAD, EdgesOfHostTest::three, x -> x.copy(0, 0, 4, 0, 1));
            Edges.refused("copy(0, 0, 3, 0, 1)", Edges.NOTHING, EdgesOfHostTest::three, x -> x.copy(0, 0, 3, 0, 1));
            Edges.refused("copy(1, 0, 0, 0, 3)", Edges.OTHER, EdgesOfHostTest::three, x -> x.copy(1, 0, 0, 0, 3));
            Edges.refused("copy(0, 0, 0, 1, 3)", Edges.OUTSIDE, EdgesOfHostTest::three, x -> x.copy(0, 0, 0, 1, 3));
            Edges.refused("copy(0, 1, 0, 0, 3)", Edges.OUTSIDE, EdgesOfHostTest::three, x -> x.copy(0, 1, 0, 0, 3));
            Edges.refused("copy(0, 1, 0, 0, -1)", Edges.OUTSIDE, EdgesOfHostTest::three, x -> x.copy(0, 1, 0, 0, -1));
        });
    }

    /** From a sheet of 5 ints to one of 3. */
    private static int copyFive(int i, int j, int n) {
        ThreeAddresses x = made();
        x.sheet(3, 2, 3);
        return x.copy(2, i, 3, j, n);
    }

    private static void copyOutside() {
        Edges.edge(25, "-12, also with n below 0", () -> {
            Edges.due("n -1", copyFive(0, 0, -1), Edges.OUTSIDE);
            Edges.due("n -1, further on", copyFive(2, 2, -1), Edges.OUTSIDE);
            Edges.due("n least", copyFive(0, 0, Edges.LEAST), Edges.OUTSIDE);
        });
        Edges.edge(25, "-12: i below 0", () -> {
            Edges.due("i -1", copyFive(-1, 0, 1), Edges.OUTSIDE);
            Edges.due("i -1, n 0", copyFive(-1, 0, 0), Edges.OUTSIDE);
            Edges.due("i least", copyFive(Edges.LEAST, 0, 1), Edges.OUTSIDE);
        });
        Edges.edge(25, "-12: j below 0", () -> {
            Edges.due("j -1", copyFive(0, -1, 1), Edges.OUTSIDE);
            Edges.due("j -1, n 0", copyFive(0, -1, 0), Edges.OUTSIDE);
            Edges.due("j least", copyFive(0, Edges.LEAST, 1), Edges.OUTSIDE);
        });
        Edges.edge(25, "-12: behind the last item of the one", () -> {
            Edges.due("i 4, n 1", copyFive(4, 0, 1), 1);
            Edges.due("i 5, n 1", copyFive(5, 0, 1), Edges.OUTSIDE);
            Edges.due("i 3, n 3", copyFive(3, 0, 3), Edges.OUTSIDE);
            Edges.due("i 2, n 3", copyFive(2, 0, 3), 3);
        });
        Edges.edge(25, "-12: behind the last item of the other", () -> {
            Edges.due("j 2, n 1", copyFive(0, 2, 1), 1);
            Edges.due("j 3, n 1", copyFive(0, 3, 1), Edges.OUTSIDE);
            Edges.due("j 0, n 4", copyFive(0, 0, 4), Edges.OUTSIDE);
            Edges.due("j 0, n 3", copyFive(0, 0, 3), 3);
            Edges.due("j 1, n 3", copyFive(0, 1, 3), Edges.OUTSIDE);
        });
        Edges.edge(25, "none at the end of both: 0; behind it -12", () -> {
            Edges.due("i 5, j 3, n 0", copyFive(5, 3, 0), 0);
            Edges.due("i 6, j 3, n 0", copyFive(6, 3, 0), Edges.OUTSIDE);
            Edges.due("i 5, j 4, n 0", copyFive(5, 4, 0), Edges.OUTSIDE);
        });
        Edges.edge(25, "-12: i and n, j and n, together, above the most int", () -> {
            Edges.due("i most, n 1", copyFive(Edges.MOST, 0, 1), Edges.OUTSIDE);
            Edges.due("j most, n 1", copyFive(0, Edges.MOST, 1), Edges.OUTSIDE);
            Edges.due("n most", copyFive(1, 1, Edges.MOST), Edges.OUTSIDE);
            Edges.due("all most", copyFive(Edges.MOST, Edges.MOST, Edges.MOST), Edges.OUTSIDE);
            Edges.due("i most, n 0", copyFive(Edges.MOST, 0, 0), Edges.OUTSIDE);
        });
        Edges.edge(25, "empty rows: none of none", () -> {
            ThreeAddresses x = Edges.fresh();
            x.sheet(0, 1, 0);
            x.sheet(1, 1, 0);
            Edges.due("n 0", x.copy(0, 0, 1, 0, 0), 0);
            Edges.due("n 1", x.copy(0, 0, 1, 0, 1), Edges.OUTSIDE);
            Edges.due("i 1", x.copy(0, 1, 1, 0, 0), Edges.OUTSIDE);
        });
    }

    /** Whether a sheet of ints has these items: each is read back as KIND and NUMBER of an order that goes again. */
    private static void items(ThreeAddresses x, int sheet, int... want) {
        Edges.due("how many items", Edges.size(x, sheet), want.length);
        for (int i = 0; i < want.length; i++) {
            Edges.ints(x, 3, 0, 12, 99);
            x.image();
            x.copy(sheet, i, 3, 0, 1);
            int came = x.orders(3, 2, 0, 1);
            int last = x.count(0) - 1;
            Edges.due("item " + i, came == 1 ? 10 * x.told(last, 7) + x.told(last, 1) : Edges.NONE, want[i]);
            x.back();
        }
    }

    private static void copy() {
        Edges.edge(25, "as they were: to items behind, in the same SHEET", () -> {
            ThreeAddresses x = made();
            Edges.due("copy(2, 0, 2, 1, 4)", x.copy(2, 0, 2, 1, 4), 4);
            items(x, 2, 1, 1, 2, 3, 4);
        });
        Edges.edge(25, "as they were: to items ahead, in the same SHEET", () -> {
            ThreeAddresses x = made();
            Edges.due("copy(2, 1, 2, 0, 4)", x.copy(2, 1, 2, 0, 4), 4);
            items(x, 2, 2, 3, 4, 5, 5);
        });
        Edges.edge(25, "as they were: where they are", () -> {
            ThreeAddresses x = made();
            Edges.due("copy(2, 0, 2, 0, 5)", x.copy(2, 0, 2, 0, 5), 5);
            items(x, 2, 1, 2, 3, 4, 5);
        });
        Edges.edge(25, "n numbers and no more come to another; the one stays", () -> {
            ThreeAddresses x = made();
            Edges.ints(x, 1, 9, 9, 9, 9);
            Edges.due("copy(2, 2, 1, 1, 2)", x.copy(2, 2, 1, 1, 2), 2);
            items(x, 1, 9, 3, 4, 9);
            items(x, 2, 1, 2, 3, 4, 5);
        });
        Edges.edge(25, "none: 0, and none came", () -> {
            ThreeAddresses x = made();
            Edges.ints(x, 1, 9, 9);
            Edges.due("copy(2, 0, 1, 0, 0)", x.copy(2, 0, 1, 0, 0), 0);
            items(x, 1, 9, 9);
        });
        Edges.edge(25, "40 of 40", () -> {
            ThreeAddresses x = Edges.fresh();
            x.sheet(0, 0, 40);
            x.sheet(1, 0, 40);
            Edges.due("n 40", x.copy(0, 0, 1, 0, 40), 40);
            Edges.due("n 41", x.copy(0, 0, 1, 0, 41), Edges.OUTSIDE);
        });
    }

    private static void ordersRefused() {
        Edges.edge(26, "BAD: no such SHEET", () -> {
            for (int sheet : new int[] {Edges.LEAST, -1, 4, Edges.MOST}) {
                Edges.due("orders(" + sheet + ", 0, 0, 0)", made().orders(sheet, 0, 0, 0), Edges.BAD);
            }
        });
        Edges.edge(26, "BAD: no such sort", () -> {
            for (int sort : new int[] {Edges.LEAST, -1, 3, Edges.MOST}) {
                Edges.due("orders(0, " + sort + ", 0, 0)", made().orders(0, sort, 0, 0), Edges.BAD);
            }
        });
        Edges.edge(26, "BAD: n (0 .. 8)", () -> {
            for (int n : new int[] {Edges.LEAST, -1, 9, Edges.MOST}) {
                Edges.due("orders(0, 0, 0, " + n + ")", made().orders(0, 0, 0, n), Edges.BAD);
            }
        });
        Edges.edge(26, "-13: a SHEET that is of another sort", () -> {
            for (int sheet = 0; sheet < 3; sheet++) {
                for (int sort = 0; sort < 3; sort++) {
                    Edges.due("orders(" + sheet + ", " + sort + ", 0, 0)", made().orders(sheet, sort, 0, 0),
                        sheet == sort ? 0 : Edges.OTHER);
                }
            }
        });
        Edges.edge(26, "-11: it is missing, whatever sort, n", () -> {
            for (int sort = 0; sort < 3; sort++) {
                Edges.due("orders(3, " + sort + ", 0, 0)", made().orders(3, sort, 0, 0), Edges.NOTHING);
                Edges.due("orders(3, " + sort + ", 0, 8)", made().orders(3, sort, 0, 8), Edges.NOTHING);
            }
        });
        Edges.edge(26, "the first that the words name: BAD ahead of -13 and -11", () -> {
            Edges.due("orders(0, 3, 0, 0)", made().orders(0, 3, 0, 0), Edges.BAD);
            Edges.due("orders(0, 1, 0, 9)", made().orders(0, 1, 0, 9), Edges.BAD);
            Edges.due("orders(3, 3, 0, 0)", made().orders(3, 3, 0, 0), Edges.BAD);
            Edges.due("orders(3, 0, 0, 9)", made().orders(3, 0, 0, 9), Edges.BAD);
            Edges.due("orders(3, 0, 0, -1)", made().orders(3, 0, 0, -1), Edges.BAD);
        });
        Edges.edge(26, "the first that the words name: -13 and -11 ahead of -12", () -> {
            Edges.due("orders(0, 1, -1, 1)", made().orders(0, 1, -1, 1), Edges.OTHER);
            Edges.due("orders(0, 1, 40, 1)", made().orders(0, 1, 40, 1), Edges.OTHER);
            Edges.due("orders(3, 1, -1, 1)", made().orders(3, 1, -1, 1), Edges.NOTHING);
        });
        Edges.edge(26, "BAD, -13, -11 change nothing", () -> {
            Consumer<ThreeAddresses> make = x -> {
                three(x);
                Edges.ints(x, 2, 0, 12, 99);
            };
            Edges.refused("orders(2, 2, 0, 9)", Edges.BAD, make, x -> x.orders(2, 2, 0, 9));
            Edges.refused("orders(2, 1, 0, 1)", Edges.OTHER, make, x -> x.orders(2, 1, 0, 1));
            Edges.refused("orders(3, 2, 0, 1)", Edges.NOTHING, make, x -> x.orders(3, 2, 0, 1));
        });
    }

    /** Sheet 0 has 40 ints: 13 orders with NUMBERS 0 .. 9, 0 .. 2, and one item more. */
    private static ThreeAddresses thirteen() {
        ThreeAddresses x = Edges.fresh();
        x.sheet(0, 2, 40);
        for (int k = 0; k < 13; k++) {
            x.cell(0, 3 * k, k % 10);
            x.cell(0, 3 * k + 1, 12);
            x.cell(0, 3 * k + 2, 99);
        }
        return x;
    }

    private static void ordersAre(ThreeAddresses x, int from, int n, int want, int count, int lastNumber) {
        Edges.due("orders(0, 2, " + from + ", " + n + ")", x.orders(0, 2, from, n), want);
        Edges.due("how many there are", x.count(0), count);
        if (count > 0) {
            Edges.due("NUMBER of the last", x.told(count - 1, 1), lastNumber);
        }
    }

    private static void ordersOutside() {
        Edges.edge(26, "-12: from below 0", () -> {
            ordersAre(thirteen(), -1, 1, Edges.OUTSIDE, 0, 0);
            ordersAre(thirteen(), -3, 8, Edges.OUTSIDE, 0, 0);
            ordersAre(thirteen(), Edges.LEAST, 1, Edges.OUTSIDE, 0, 0);
        });
        Edges.edge(26, "-12: the last three are inside, what is behind them is not", () -> {
            ordersAre(thirteen(), 36, 1, 1, 1, 2);
            ordersAre(thirteen(), 37, 1, 0, 0, 0);
            ordersAre(thirteen(), 38, 1, Edges.OUTSIDE, 0, 0);
            ordersAre(thirteen(), 39, 1, Edges.OUTSIDE, 0, 0);
            ordersAre(thirteen(), 40, 1, Edges.OUTSIDE, 0, 0);
            ordersAre(thirteen(), Edges.MOST, 1, Edges.OUTSIDE, 0, 0);
            ordersAre(thirteen(), Edges.MOST - 2, 8, Edges.OUTSIDE, 0, 0);
        });
        Edges.edge(26, "-12: what stood ahead came", () -> {
            ordersAre(thirteen(), 36, 2, Edges.OUTSIDE, 1, 2);
            ordersAre(thirteen(), 33, 8, Edges.OUTSIDE, 2, 2);
            ordersAre(thirteen(), 21, 7, Edges.OUTSIDE, 6, 2);
        });
        Edges.edge(26, "-12, where there is no room, too", () -> {
            ThreeAddresses x = thirteen();
            ordersAre(x, 0, 8, 8, 8, 7);
            ordersAre(x, 39, 1, Edges.OUTSIDE, 8, 7);
            ordersAre(x, 36, 2, Edges.OUTSIDE, 8, 7);
        });
        Edges.edge(26, "-12: an empty row; rows of 1, 2, 3", () -> {
            for (int n = 0; n <= 3; n++) {
                ThreeAddresses x = Edges.fresh();
                x.sheet(0, 2, n);
                Edges.due("a row of " + n, x.orders(0, 2, 0, 1), n < 3 ? Edges.OUTSIDE : 0);
            }
        });
    }

    private static void orders() {
        Edges.edge(26, "n of them (0 .. 8): none", () -> ordersAre(thirteen(), 0, 0, 0, 0, 0));
        Edges.edge(26, "n of them (0 .. 8): 1 and 8", () -> {
            ordersAre(thirteen(), 0, 1, 1, 1, 0);
            ordersAre(thirteen(), 0, 8, 8, 8, 7);
            ordersAre(thirteen(), 15, 8, 8, 8, 2);
        });
        Edges.edge(26, "from one on, three by three: from any item", () -> {
            ordersAre(thirteen(), 3, 2, 2, 2, 2);
            // 12, 99, 1: FROM 9 is no HOUSE.
            ordersAre(thirteen(), 1, 1, 0, 0, 0);
        });
        Edges.edge(26, "others are left out: those that are BAD", () -> {
            ThreeAddresses x = thirteen();
            x.cell(0, 0, 60);
            x.cell(0, 4, 11);
            x.cell(0, 8, 100);
            ordersAre(x, 0, 5, 2, 2, 4);
            Edges.due("NUMBER of the first", x.told(0, 1), 3);
        });
        Edges.edge(26, "others are left out: those for which there is no room", () -> {
            ThreeAddresses x = thirteen();
            x.order(9, 12, 99);
            ordersAre(x, 0, 8, 7, 8, 6);
            ordersAre(x, 0, 8, 0, 8, 6);
        });
        Edges.edge(26, "others are left out: all", () -> {
            ThreeAddresses x = Edges.fresh();
            x.sheet(0, 2, 24);
            ordersAre(x, 0, 8, 0, 0, 0);
        });
        Edges.edge(26, "the SHEET stays", () -> {
            ThreeAddresses x = thirteen();
            x.orders(0, 2, 0, 3);
            Edges.due("its size", Edges.size(x, 0), 40);
            ordersAre(x, 0, 3, 3, 6, 2);
        });
    }

    private static void ordersOfBytes() {
        Edges.edge(26, "bytes: as of order(), the most that a byte tells", () -> {
            ThreeAddresses x = Edges.fresh();
            Edges.row(x, 0, 0, 59, 76, 99, 0, 1, 127, 0, 12, 128, 0, 12, 0);
            // 127 is FIRST 1, LAST 27; 128 is -128 of a byte.
            Edges.due("orders(0, 0, 0, 4)", x.orders(0, 0, 0, 4), 3);
            Edges.due("FIRST", x.told(1, 4), 1);
            Edges.due("LAST", x.told(1, 5), 27);
            Edges.due("LAST of the third", x.told(2, 5), 0);
        });
        Edges.edge(26, "shorts: as of order()", () -> {
            ThreeAddresses x = Edges.fresh();
            Edges.row(x, 0, 1, 59, 76, 9999, 0, 12, 10000, 0, 12, 32768);
            Edges.due("orders(0, 1, 0, 3)", x.orders(0, 1, 0, 3), 1);
            Edges.due("FIRST", x.told(0, 4), 99);
        });
    }

    private static void taken() {
        Edges.edge(27, "BAD: k below 0, above 5", () -> {
            for (int k : new int[] {Edges.LEAST, -1, 6, Edges.MOST}) {
                Edges.due("taken(0, " + k + ")", made().taken(0, k), Edges.BAD);
            }
        });
        Edges.edge(27, "-11: no such ORDER", () -> {
            for (int order : new int[] {Edges.LEAST, -1, 2, 8, Edges.MOST}) {
                for (int k = 0; k < 6; k++) {
                    Edges.due("taken(" + order + ", " + k + ")", made().taken(order, k), Edges.NOTHING);
                }
            }
            Edges.due("taken(0, 0), where there are none", Edges.fresh().taken(0, 0), Edges.NOTHING);
        });
        Edges.edge(27, "the last ORDER there is, the last of 8", () -> {
            Edges.due("taken(1, 0)", made().taken(1, 0), 0);
            ThreeAddresses x = Edges.fresh();
            for (int i = 0; i < 8; i++) {
                x.order(i + 2, 12, 99);
            }
            Edges.due("taken(7, 0)", x.taken(7, 0), 9);
            Edges.due("taken(8, 0)", x.taken(8, 0), Edges.NOTHING);
        });
        Edges.edge(27, "the first that the words name: BAD ahead of -11", () -> {
            Edges.due("taken(2, 6)", made().taken(2, 6), Edges.BAD);
            Edges.due("taken(-1, -1)", made().taken(-1, -1), Edges.BAD);
        });
        Edges.edge(27, "BAD, -11, -13 change nothing", () -> {
            Edges.refused("taken(0, 6)", Edges.BAD, EdgesOfHostTest::three, x -> x.taken(0, 6));
            Edges.refused("taken(2, 0)", Edges.NOTHING, EdgesOfHostTest::three, x -> x.taken(2, 0));
            Edges.refused("taken(0, 1)", Edges.OTHER, EdgesOfHostTest::three, x -> x.taken(0, 1));
        });
    }

    /** Of an order of a kind, with NUMBER 9, taken for each kind: 1 where it may be. */
    private static void takenFor(int kind, String may) {
        for (int k = 0; k < 6; k++) {
            ThreeAddresses x = Edges.fresh();
            x.order(10 * kind + 9, 12, 99);
            Edges.due("KIND " + kind + " for " + k, x.taken(0, k), may.charAt(k) == '1' ? 9 : Edges.OTHER);
        }
    }

    private static void takenKinds() {
        Edges.edge(27, "0 ORDER: for itself alone", () -> takenFor(0, "100000"));
        Edges.edge(27, "1 SLOW under ORDER", () -> takenFor(1, "110000"));
        Edges.edge(27, "2 NOW AND THEN under ORDER", () -> takenFor(2, "101000"));
        Edges.edge(27, "3 BY SHIP under SLOW, also by others between", () -> takenFor(3, "110100"));
        Edges.edge(27, "4 KIND ONE under NOW AND THEN, also by others between", () -> takenFor(4, "101010"));
        Edges.edge(27, "5 FOR GOOD under ORDER", () -> takenFor(5, "100001"));
        Edges.edge(27, "its NUMBER, 0 and 9, as it is set", () -> {
            ThreeAddresses x = Edges.fresh();
            x.order(30, 12, 99);
            Edges.due("NUMBER 0", x.taken(0, 1), 0);
            x.set(1, 0, 9);
            Edges.due("NUMBER 9", x.taken(0, 1), 9);
        });
    }
}
