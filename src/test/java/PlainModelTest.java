import java.util.ArrayList;
import java.util.Arrays;
import java.util.List;
import java.util.Random;

/**
 * Runs of calls, drawn by fixed seeds, on the class and on a model that follows the document's words
 * in the plainest way: day by day, with no tables, with the host's own rows and what it throws.
 */
public final class PlainModelTest {
    private static int wrong = 0;
    private static int asked = 0;
    // How many were asked ahead of the object at hand: what it answers beyond 512 calls is free.
    private static int askedAhead = 0;

    public static void main(String[] args) {
        for (int seed = 1; seed <= 500 && wrong < 20; seed++) {
            run(seed);
        }
        for (int seed = 1; seed <= 40000 && wrong < 20; seed++) {
            readTexts(seed);
        }
        System.out.println("model: " + asked + " answers, " + wrong + " wrong");
        if (wrong != 0) {
            System.exit(1);
        }
    }

    private static void due(int seed, String call, long got, long want) {
        asked++;
        if (got != want) {
            wrong++;
            System.out.println("seed " + seed + ": " + call + " answered " + got + ", the model " + want);
        }
    }

    /** One object, 512 calls at most. */
    private static void run(int seed) {
        Random r = new Random(seed);
        ThreeAddresses x = new ThreeAddresses();
        Plain m = new Plain();
        int dear = 0;
        askedAhead = asked;
        // Some runs begin with many orders and moves, others find them by and by.
        int head = r.nextInt(14);
        for (int i = 0; i < 300 && callsLeft() > 10; i++) {
            int c = i < head ? r.nextInt(12) : r.nextInt(100);
            if (c >= 76 && c < 81 && dear++ > 4) {
                c = 50;
            }
            step(seed, r, x, m, c);
        }
    }

    private static int callsLeft() {
        return 512 - (asked - askedAhead);
    }

    private static int near(Random r, int n) {
        return r.nextInt(12) == 0 ? r.nextInt(n + 6) - 3 : r.nextInt(n);
    }

    private static int orderDays(Random r) {
        if (r.nextInt(15) == 0) {
            return r.nextInt(10300) - 200;
        }
        int first = r.nextInt(100);
        int last = first + r.nextInt(100 - first);
        return r.nextInt(3) == 0 ? last : 100 * first + last;
    }

    private static void step(int seed, Random r, ThreeAddresses x, Plain m, int c) {
        if (c < 3) {
            int day = m.moves.isEmpty() ? near(r, 40) : m.moves.get(m.moves.size() - 1)[0] + near(r, 30);
            int house = near(r, 8);
            due(seed, "move", x.move(day, house), m.move(day, house));
        } else if (c < 12) {
            int what = near(r, 60);
            int way = near(r, 8) * 10 + near(r, 8);
            int days = orderDays(r);
            due(seed, "order", x.order(what, way, days), m.order(what, way, days));
        } else if (c < 20) {
            int what = near(r, 7);
            int of = near(r, 5);
            int v = r.nextBoolean() ? near(r, 9) : near(r, 100);
            due(seed, "set", x.set(what, of, v), m.set(what, of, v));
        } else if (c < 26) {
            int of = near(r, 5);
            int what = near(r, 9);
            due(seed, "told", x.told(of, what), m.told(of, what));
            int day = near(r, 100);
            due(seed, "lives", x.lives(day), m.lives(day));
        } else if (c < 34) {
            int order = near(r, 5);
            int day = near(r, 100);
            int what = near(r, 3);
            due(seed, "sends", x.sends(order, day, what), m.sends(order, day, what));
        } else if (c < 37) {
            String text = r.nextInt(4) == 0 ? randomText(r) : goodText(r);
            if (text.length() > callsLeft() - 10) {
                return;
            }
            for (int i = 0; i < text.length(); i++) {
                due(seed, "feed", x.feed(text.charAt(i)), m.feed(text.charAt(i)));
            }
            due(seed, "text " + text, x.text(), m.text());
        } else if (c < 40) {
            int t = near(r, 6);
            due(seed, "force", x.force(t), m.force(t));
        } else if (c < 60) {
            int house = near(r, 8);
            int day = near(r, 100);
            int what = r.nextBoolean() ? near(r, 5) : 10 + near(r, 20);
            due(seed, "letter", x.letter(house, day, what), m.letter(house, day, what));
        } else if (c < 76) {
            int house = near(r, 8);
            int what = near(r, 6);
            due(seed, "reaches " + what, x.reaches(house, what), m.reaches(house, what));
        } else {
            stepOn(seed, r, x, m, c);
        }
    }

    private static void stepOn(int seed, Random r, ThreeAddresses x, Plain m, int c) {
        if (c < 78) {
            int house = near(r, 8);
            int what = near(r, 3);
            due(seed, "needless " + what, x.needless(house, what), m.needless(house, what));
        } else if (c < 80) {
            int house = near(r, 8);
            int day = near(r, 100);
            int what = near(r, 2);
            due(seed, "oneMore " + what, x.oneMore(house, day, what), m.oneMore(house, day, what));
        } else if (c < 81) {
            int house = near(r, 8);
            due(seed, "thicker", x.thicker(house), m.thicker(house));
        } else if (c < 85) {
            int sheet = near(r, 4);
            int house = near(r, 8);
            int day = near(r, 100);
            due(seed, "film", x.film(sheet, house, day), m.film(sheet, house, day));
            int what = r.nextBoolean() ? near(r, 4) : 10 + near(r, 5);
            due(seed, "covers " + what, x.covers(sheet, what), m.covers(sheet, what));
        } else if (c < 87) {
            int sheet = near(r, 4);
            int what = near(r, 4);
            due(seed, "covers " + what, x.covers(sheet, what), m.covers(sheet, what));
        } else if (c < 89) {
            int house = near(r, 8);
            int z = r.nextInt();
            due(seed, "drawn", x.drawn(house, z), m.drawn(house, z));
            int n = near(r, 21);
            int least = near(r, 11);
            int part = near(r, 2);
            due(seed, "chance", x.chance(house, z, n, least, part), m.chance(house, z, n, least, part));
        } else if (c < 91) {
            if (r.nextInt(3) == 0) {
                due(seed, "image", x.image(), m.image());
            } else {
                due(seed, "back", x.back(), m.back());
            }
            for (int i = -1; i < 7; i++) {
                due(seed, "count", x.count(i), m.count(i));
            }
        } else {
            stepHost(seed, r, x, m, c);
        }
    }

    private static void stepHost(int seed, Random r, ThreeAddresses x, Plain m, int c) {
        int sheet = near(r, 4);
        if (c < 93) {
            int sort = near(r, 3);
            int n = r.nextBoolean() ? near(r, 40) : near(r, 4);
            due(seed, "sheet", x.sheet(sheet, sort, n), m.sheet(sheet, sort, n));
        } else if (c < 95) {
            for (int i = 0; i < 6; i++) {
                int at = near(r, 9);
                int v = r.nextInt(3) == 0 ? r.nextInt() : i % 3 == 2 ? orderDays(r) : near(r, 60);
                due(seed, "cell", x.cell(sheet, at, v), m.cell(sheet, at, v));
            }
        } else if (c < 97) {
            int other = near(r, 4);
            int i = near(r, 10);
            int j = near(r, 10);
            int n = near(r, 10);
            due(seed, "copy", x.copy(sheet, i, other, j, n), m.copy(sheet, i, other, j, n));
        } else if (c < 99) {
            int sort = near(r, 3);
            int from = near(r, 10);
            int n = near(r, 5);
            due(seed, "orders", x.orders(sheet, sort, from, n), m.orders(sheet, sort, from, n));
        } else {
            int order = near(r, 6);
            int k = near(r, 6);
            due(seed, "taken", x.taken(order, k), m.taken(order, k));
        }
    }

    private static void readTexts(int seed) {
        Random r = new Random(seed * 31L + 7);
        ThreeAddresses x = new ThreeAddresses();
        Plain m = new Plain();
        String text = randomText(r);
        for (int i = 0; i < text.length() && i < 160; i++) {
            x.feed(text.charAt(i));
            m.feed(text.charAt(i));
        }
        due(seed, "text " + text, x.text(), m.text());
        x.order(13, 25, 3070);
        m.order(13, 25, 3070);
        due(seed, "force " + text, x.force(1), m.force(1));
        due(seed, "costs by " + text, x.sends(0, 0, 2), m.sends(0, 0, 2));
        due(seed, "takes by " + text, x.sends(0, 44, 1), m.sends(0, 44, 1));
        due(seed, "minds by " + text, x.reaches(7, 2), m.reaches(7, 2));
    }

    private static String goodText(Random r) {
        return "takes " + either(r, 2) + ";costs " + either(r, 2) + " ; minds " + either(r, 2) + ";";
    }

    /** A text that is good, or was spoiled in some places. */
    private static String randomText(Random r) {
        StringBuilder s = new StringBuilder(goodText(r));
        if (r.nextInt(3) != 0) {
            return s.toString();
        }
        String[] bits = {"(", ")", ";", "+", "-", "*", "<", "=", " ", "\n", "not ", "and ", "or ", "7", "12345", "day", "takes", "x", "A", "--", "(((", "\t"};
        for (int i = r.nextInt(3); i >= 0; i--) {
            int at = r.nextInt(s.length());
            if (r.nextBoolean()) {
                s.insert(at, bits[r.nextInt(bits.length)]);
            } else {
                s.delete(at, Math.min(s.length(), at + 1 + r.nextInt(6)));
            }
            if (s.length() == 0) {
                return "";
            }
        }
        return s.toString();
    }

    private static String either(Random r, int deep) {
        StringBuilder s = new StringBuilder(both(r, deep));
        for (int i = r.nextInt(4) == 0 ? 1 : 0; i > 0; i--) {
            s.append(" or ").append(both(r, deep));
        }
        return s.toString();
    }

    private static String both(Random r, int deep) {
        StringBuilder s = new StringBuilder(compared(r, deep));
        for (int i = r.nextInt(4) == 0 ? 1 : 0; i > 0; i--) {
            s.append(" and ").append(compared(r, deep));
        }
        return s.toString();
    }

    private static String compared(Random r, int deep) {
        if (r.nextInt(6) == 0) {
            return "not " + compared(r, deep);
        }
        String s = sum(r, deep);
        return r.nextInt(5) == 0 ? s + (r.nextBoolean() ? "<" : " = ") + sum(r, deep) : s;
    }

    private static String sum(Random r, int deep) {
        StringBuilder s = new StringBuilder(term(r, deep));
        for (int i = r.nextInt(3); i > 0; i--) {
            s.append(r.nextBoolean() ? "+" : " - ").append(term(r, deep));
        }
        return s.toString();
    }

    private static String term(Random r, int deep) {
        String s = one(r, deep);
        return r.nextInt(4) == 0 ? s + "*" + one(r, deep) : s;
    }

    private static String one(Random r, int deep) {
        int c = r.nextInt(10);
        if (c < 4) {
            return "" + (r.nextInt(4) == 0 ? r.nextInt(10000) : r.nextInt(12));
        }
        if (c == 8) {
            return "-" + one(r, deep);
        }
        if (c == 9 && deep > 0) {
            return "(" + either(r, deep - 1) + ")";
        }
        String[] names = {"day", "house", "stamps", "number", "order", "long"};
        return names[r.nextInt(names.length)];
    }

    /** The document's words, one by one. */
    private static final class Plain {
        int thick = 9;
        List<int[]> moves = new ArrayList<>();
        List<int[]> orders = new ArrayList<>();
        List<List<String>> texts = new ArrayList<>();
        int rule = 0;
        String tape = "";
        Object[] sheets = new Object[4];
        Plain image = null;

        Plain() {
            texts.add(tokens("takes 2 ; costs 5 + long ; minds 10 ;", new ArrayList<>()));
        }

        static boolean in(int v, int low, int high) {
            return v >= low && v <= high;
        }

        int move(int day, int house) {
            if (!in(day, 0, 99) || !in(house, 0, 7)) return -2;
            for (int[] m : moves) if (m[0] >= day) return -3;
            if (moves.size() == 6) return -4;
            moves.add(new int[] {day, house});
            return moves.size();
        }

        static boolean good(int[] o) {
            return in(o[0], 0, 5) && in(o[1], 0, 9) && in(o[2], 0, 7) && in(o[3], 0, 7) && o[2] != o[3]
                && in(o[4], 0, 99) && in(o[5], 0, 99) && o[5] >= o[4];
        }

        int order(int what, int way, int days) {
            int[] o = {what / 10, what % 10, way / 10, way % 10, days / 100, days % 100};
            if (!good(o)) return -2;
            if (orders.size() == 8) return -4;
            orders.add(o);
            return orders.size() - 1;
        }

        int set(int what, int of, int v) {
            int was;
            if (what == 0) {
                if (!in(v, 1, 20)) return -100;
                was = thick;
                thick = v;
                return was;
            }
            if (what == 6) {
                if (!in(of, 0, moves.size() - 1) || !in(v, 0, 7)) return -100;
                was = moves.get(of)[1];
                moves.get(of)[1] = v;
                return was;
            }
            if (!in(what, 1, 5) || !in(of, 0, orders.size() - 1)) return -100;
            int[] changed = orders.get(of).clone();
            was = changed[what];
            changed[what] = v;
            if (!good(changed)) return -100;
            orders.set(of, changed);
            return was;
        }

        int told(int of, int what) {
            if (what == 0) return thick;
            if (what == 6 || what == 8) return in(of, 0, moves.size() - 1) ? moves.get(of)[what == 6 ? 1 : 0] : -100;
            if (!in(what, 1, 7) || !in(of, 0, orders.size() - 1)) return -100;
            return orders.get(of)[what == 7 ? 0 : what];
        }

        int home(int day) {
            int house = 0;
            for (int[] m : moves) if (m[0] <= day) house = m[1];
            return house;
        }

        int lives(int day) {
            return in(day, 0, 99) ? home(day) : -2;
        }

        static boolean sendsAs(int kind, int[] o, int d) {
            switch (kind) {
                case 0: return d >= o[4] && d <= o[5];
                case 1: return sendsAs(0, o, d);
                case 2: return sendsAs(0, o, d) && d % (o[1] + 1) == 0;
                case 3: return sendsAs(1, o, d) && d != o[4];
                case 4: return sendsAs(2, o, d) || d > o[5] && d <= o[5] + o[1];
                default: return d >= o[4];
            }
        }

        static int lastsAs(int kind, int[] o, int v) {
            switch (kind) {
                case 1: return lastsAs(0, o, v) + o[1];
                case 2: return lastsAs(0, o, v);
                case 3: return 2 * lastsAs(1, o, v);
                case 4: return lastsAs(2, o, v) + 1;
                default: return v;
            }
        }

        int lasts(int order, int day, int stamps, int under) {
            int[] o = orders.get(order);
            int v = part("takes", day, o[2], stamps, o[1], order, under);
            return Math.max(1, lastsAs(o[0], o, Math.max(1, Math.min(40, v))));
        }

        int costs(int order) {
            int[] o = orders.get(order);
            return Math.max(0, Math.min(99, part("costs", o[4], o[2], 0, o[1], order, o[5] - o[4])));
        }

        int sends(int order, int day, int what) {
            if (!in(order, 0, orders.size() - 1) || !in(what, 0, 2)) return -2;
            if (what == 2) return costs(order);
            if (!in(day, 0, 99)) return -2;
            int[] o = orders.get(order);
            return what == 0 ? (sendsAs(o[0], o, day) ? 1 : 0) : lasts(order, day, 0, 0);
        }

        int feed(int b) {
            if (!in(b, 0, 255)) return -2;
            if (tape.length() == 160) return -4;
            tape += (char) b;
            return tape.length();
        }

        int text() {
            if (texts.size() == 6) return -4;
            List<Integer> places = new ArrayList<>();
            List<String> read = tokens(tape, places);
            int fault = fault(read, places, tape.length());
            tape = "";
            if (fault >= 0) return -100 - fault;
            texts.add(read);
            return texts.size() - 1;
        }

        /** Tokens; those that are none are "?". */
        static List<String> tokens(String s, List<Integer> places) {
            List<String> out = new ArrayList<>();
            java.util.regex.Matcher m = java.util.regex.Pattern.compile("[a-z]+|[0-9]+|[^ \n]").matcher(s);
            List<String> words = Arrays.asList("day", "house", "stamps", "number", "order", "long", "takes", "costs", "minds", "or", "and", "not");
            while (m.find()) {
                String t = m.group();
                boolean good = words.contains(t) || t.matches("[0-9]{1,4}") || "();+-*<=".contains(t);
                out.add(good ? t : "?");
                places.add(m.start());
            }
            return out;
        }

        static final List<String> NAMES = Arrays.asList("day", "house", "stamps", "number", "order", "long");

        static boolean isValue(String t) {
            return Character.isDigit(t.charAt(0)) || NAMES.contains(t);
        }

        /** By a stack of frames, one for each open ( : {comparison seen, nots open, minuses open}. */
        static int fault(List<String> read, List<Integer> places, int size) {
            String[] keys = {"takes", "costs", "minds"};
            int k = 0;
            for (String key : keys) {
                if (k >= read.size()) return size;
                if (!read.get(k).equals(key)) return places.get(k);
                k++;
                List<int[]> frames = new ArrayList<>();
                frames.add(new int[3]);
                boolean wantsValue = true;
                boolean mayNot = true;
                boolean ended = false;
                while (!ended) {
                    if (k >= read.size()) return size;
                    String t = read.get(k);
                    int[] top = frames.get(frames.size() - 1);
                    int open = frames.size() - 1;
                    for (int[] f : frames) open += f[1] + f[2];
                    boolean good = true;
                    if (wantsValue) {
                        if (isValue(t)) {
                            top[2] = 0;
                            wantsValue = false;
                        } else if (t.equals("-") && open < 5) {
                            top[2]++;
                            mayNot = false;
                        } else if (t.equals("(") && open < 5) {
                            frames.add(new int[3]);
                            mayNot = true;
                        } else if (t.equals("not") && mayNot && open < 5) {
                            top[1]++;
                        } else {
                            good = false;
                        }
                    } else if (t.equals("+") || t.equals("-") || t.equals("*") || (t.equals("<") || t.equals("=")) && top[0] == 0) {
                        if (t.equals("<") || t.equals("=")) top[0] = 1;
                        wantsValue = true;
                        mayNot = false;
                    } else if (t.equals("or") || t.equals("and")) {
                        top[0] = 0;
                        top[1] = 0;
                        wantsValue = true;
                        mayNot = true;
                    } else if (t.equals(")") && frames.size() > 1) {
                        frames.remove(frames.size() - 1);
                        frames.get(frames.size() - 1)[2] = 0;
                    } else if (t.equals(";") && frames.size() == 1) {
                        ended = true;
                    } else {
                        good = false;
                    }
                    if (!good) return places.get(k);
                    k++;
                }
            }
            return k < read.size() ? places.get(k) : -1;
        }

        int part(String key, int day, int house, int stamps, int number, int order, int under) {
            List<String> t = texts.get(rule);
            int from = t.indexOf(key) + 1;
            int to = from;
            while (!t.get(to).equals(";")) to++;
            return value(t.subList(from, to), new int[] {day, house, stamps, number, order, under});
        }

        /** Cuts at the last sign that binds least. */
        static int value(List<String> t, int[] names) {
            String[][] levels = {{"or"}, {"and"}};
            for (String[] level : levels) {
                int at = lastOf(t, level);
                if (at >= 0) {
                    boolean a = value(t.subList(0, at), names) != 0;
                    boolean b = value(t.subList(at + 1, t.size()), names) != 0;
                    return (level[0].equals("or") ? a | b : a & b) ? 1 : 0;
                }
            }
            if (t.get(0).equals("not")) return value(t.subList(1, t.size()), names) == 0 ? 1 : 0;
            String[][] sums = {{"<", "="}, {"+", "-"}, {"*"}};
            for (String[] level : sums) {
                int at = lastOf(t, level);
                if (at >= 0) {
                    int a = value(t.subList(0, at), names);
                    int b = value(t.subList(at + 1, t.size()), names);
                    switch (t.get(at)) {
                        case "<": return a < b ? 1 : 0;
                        case "=": return a == b ? 1 : 0;
                        case "+": return a + b;
                        case "-": return a - b;
                        default: return a * b;
                    }
                }
            }
            if (t.get(0).equals("-")) return -value(t.subList(1, t.size()), names);
            if (t.get(0).equals("(")) return value(t.subList(1, t.size() - 1), names);
            if (Character.isDigit(t.get(0).charAt(0))) return Integer.parseInt(t.get(0));
            return names[NAMES.indexOf(t.get(0))];
        }

        static int lastOf(List<String> t, String[] signs) {
            int deep = 0;
            for (int i = t.size() - 1; i > 0; i--) {
                if (t.get(i).equals(")")) deep++;
                if (t.get(i).equals("(")) deep--;
                boolean between = isValue(t.get(i - 1)) || t.get(i - 1).equals(")");
                if (deep == 0 && between && Arrays.asList(signs).contains(t.get(i))) return i;
            }
            return -1;
        }

        int force(int t) {
            if (!in(t, 0, texts.size() - 1)) return -2;
            int was = rule;
            rule = t;
            return was;
        }

        /** END, DAY, HOUSE, STAMPS, LONG; the houses; the orders, each as often as it sent. */
        int[] end = new int[5];
        List<Integer> houses = new ArrayList<>();
        List<Integer> by = new ArrayList<>();

        boolean follow(int house, int written) {
            houses.clear();
            by.clear();
            houses.add(house);
            int day = written;
            int stamps = 0;
            int how = -1;
            while (how < 0) {
                int sender = -1;
                for (int i = orders.size() - 1; i >= 0; i--) {
                    int[] o = orders.get(i);
                    if (o != null && o[2] == house && sendsAs(o[0], o, day)) sender = i;
                }
                if (home(Math.min(day, 99)) == house) {
                    how = 0;
                } else if (stamps > thick || day > 99) {
                    how = 1;
                } else if (sender >= 0) {
                    day += lasts(sender, day, stamps, day - written);
                    house = orders.get(sender)[3];
                    stamps++;
                    houses.add(house);
                    by.add(sender);
                } else if (day == 99) {
                    how = 2;
                } else {
                    day++;
                }
            }
            end = new int[] {how, day, house, stamps, day - written};
            return how == 0;
        }

        int letter(int house, int day, int what) {
            if (!in(house, 0, 7) || !in(day, 0, 99) || !in(what, 0, 4) && !in(what, 10, 29)) return -2;
            follow(house, day);
            if (what < 5) return end[what];
            return what - 10 < houses.size() ? houses.get(what - 10) : -1;
        }

        int many(int house) {
            int n = 0;
            for (int d = 0; d < 100; d++) if (follow(house, d)) n++;
            return n;
        }

        int reaches(int house, int what) {
            if (!in(house, 0, 7) || !in(what, 0, 5)) return -2;
            int last = -1;
            int grief = 0;
            int longest = -1;
            int round = -1;
            int overtaken = 0;
            Integer[] came = new Integer[100];
            for (int d = 0; d < 100; d++) {
                if (follow(house, d)) {
                    last = d;
                    longest = Math.max(longest, end[4]);
                    came[d] = end[1];
                } else {
                    grief += Math.max(0, Math.min(999, part("minds", d, house, end[3], 0, 0, end[4])));
                }
                if (round < 0 && by.stream().distinct().count() < by.size()) round = d;
            }
            for (int d = 0; d < 100; d++) {
                boolean is = false;
                for (int e = d + 1; e < 100; e++) is |= came[d] != null && came[e] != null && came[d] > came[e];
                overtaken += is ? 1 : 0;
            }
            return new int[] {many(house), last, grief, longest, overtaken, round}[what];
        }

        int manyOf(int house, int set) {
            List<int[]> all = orders;
            orders = new ArrayList<>(all);
            for (int i = 0; i < all.size(); i++) if ((set >> i & 1) == 0) orders.set(i, null);
            int n = many(house);
            orders = all;
            return n;
        }

        int needless(int house, int what) {
            if (!in(house, 0, 7) || !in(what, 0, 2)) return -2;
            int now = many(house);
            int full = (1 << orders.size()) - 1;
            int needless = 0;
            for (int i = 0; i < orders.size(); i++) if (manyOf(house, full - (1 << i)) >= now) needless |= 1 << i;
            int best = -1;
            int least = 0;
            for (int set = full; set >= 0 && what > 0; set--) {
                int cost = 0;
                for (int i = 0; i < orders.size(); i++) cost += (set >> i & 1) * costs(i);
                if ((best < 0 || cost <= least) && manyOf(house, set) >= now) {
                    best = set;
                    least = cost;
                }
            }
            return what == 0 ? needless : what == 1 ? best : least;
        }

        int oneMore(int house, int day, int what) {
            if (!in(house, 0, 7) || !in(day, 0, 99) || !in(what, 0, 1)) return -2;
            if (orders.size() == 8) return -4;
            int most = many(house);
            int best = -1;
            for (int from = 0; from < 8; from++) {
                for (int to = 0; to < 8; to++) {
                    if (from == to) continue;
                    order(0, 10 * from + to, 100 * day + 99);
                    int then = many(house);
                    orders.remove(orders.size() - 1);
                    if (then > most) {
                        most = then;
                        best = 10 * from + to;
                    }
                }
            }
            return what == 0 ? best : most;
        }

        int thicker(int house) {
            if (!in(house, 0, 7)) return -2;
            int was = thick;
            thick = 20;
            int most = many(house);
            int least = 20;
            for (int t = 20; t >= 1; t--) {
                thick = t;
                if (many(house) == most) least = t;
            }
            thick = was;
            return least;
        }

        int covers(int sheet, int what) {
            if (!in(sheet, 0, 3) || !in(what, 0, 3) && !in(what, 10, 10 + orders.size() - 1)) return -2;
            if (sheets[sheet] == null) return -11;
            List<Integer> told = new ArrayList<>();
            for (int i = 0; i < java.lang.reflect.Array.getLength(sheets[sheet]); i++) told.add(java.lang.reflect.Array.getInt(sheets[sheet], i));
            if (told.isEmpty() || told.size() > 20) return -2;
            for (int h : told) if (!in(h, 0, 7)) return -2;
            List<Integer> days = days(told, null);
            if (what == 0) return days.size();
            if (what == 1) return days.isEmpty() ? -1 : days.get(0);
            int bits = 0;
            if (what == 2) {
                List<Integer> used = new ArrayList<>();
                days(told, used);
                for (int i : used) bits |= 1 << i;
            } else if (what == 3) {
                int was = rule;
                for (rule = 0; rule < texts.size(); rule++) if (!days(told, null).isEmpty()) bits |= 1 << rule;
                rule = was;
            } else {
                int was = orders.get(what - 10)[0];
                for (int k = 0; k < 6; k++) {
                    orders.get(what - 10)[0] = k;
                    if (!days(told, null).isEmpty()) bits |= 1 << k;
                }
                orders.get(what - 10)[0] = was;
            }
            return bits;
        }

        List<Integer> days(List<Integer> told, List<Integer> used) {
            List<Integer> out = new ArrayList<>();
            for (int d = 0; d < 100; d++) {
                follow(told.get(0), d);
                if (houses.equals(told)) {
                    out.add(d);
                    if (used != null) used.addAll(by);
                }
            }
            return out;
        }

        int film(int sheet, int house, int day) {
            if (!in(sheet, 0, 3) || !in(house, 0, 7) || !in(day, 0, 99)) return -2;
            follow(house, day);
            byte[] row = new byte[Math.min(20, houses.size())];
            for (int i = 0; i < row.length; i++) row[i] = (byte) (int) houses.get(i);
            sheets[sheet] = row;
            return row.length;
        }

        int drawn(int house, int seed) {
            if (!in(house, 0, 7)) return -2;
            int n = 0;
            int z = seed;
            for (int i = 0; i < 10; i++) {
                z = z * 1103515245 + 12345;
                if (follow(house, (z >>> 9) % 100)) n++;
            }
            return n;
        }

        long chance(int house, int seed, int n, int least, int part) {
            if (!in(house, 0, 7) || !in(n, 1, 20) || !in(least, 0, 10) || !in(part, 0, 1)) return -4611686018427387904L;
            int k = 0;
            for (int i = 0; i < n; i++) if (drawn(house, seed + i) >= least) k++;
            int a = k;
            int b = n;
            while (a != 0) {
                int t = b % a;
                b = a;
                a = t;
            }
            return part == 0 ? k / b : n / b;
        }

        int image() {
            image = new Plain();
            image.thick = thick;
            image.rule = rule;
            for (int[] m : moves) image.moves.add(m.clone());
            for (int[] o : orders) image.orders.add(o.clone());
            return orders.size();
        }

        int back() {
            if (image == null) return -3;
            Plain kept = image;
            thick = kept.thick;
            rule = kept.rule;
            moves = kept.moves;
            orders = kept.orders;
            image();
            return orders.size();
        }

        int count(int what) {
            if (!in(what, 0, 5)) return -2;
            return new int[] {orders.size(), moves.size(), thick, texts.size(), tape.length(), rule}[what];
        }

        int sheet(int sheet, int sort, int n) {
            if (!in(sheet, 0, 3) || !in(sort, -1, 2)) return -2;
            if (sort >= 0 && n > 40) return -2;
            try {
                sheets[sheet] = sort == 0 ? new byte[n] : sort == 1 ? new short[n] : sort == 2 ? new int[n] : null;
                return 1;
            } catch (NegativeArraySizeException e) {
                return -14;
            }
        }

        int cell(int sheet, int i, int v) {
            if (!in(sheet, 0, 3)) return -2;
            try {
                if (sheets[sheet] instanceof byte[]) ((byte[]) sheets[sheet])[i] = (byte) v;
                else if (sheets[sheet] instanceof short[]) ((short[]) sheets[sheet])[i] = (short) v;
                else ((int[]) sheets[sheet])[i] = v;
                return 1;
            } catch (NullPointerException e) {
                return -11;
            } catch (ArrayIndexOutOfBoundsException e) {
                return -12;
            }
        }

        int copy(int sheet, int i, int other, int j, int n) {
            if (!in(sheet, 0, 3) || !in(other, 0, 3)) return -2;
            try {
                System.arraycopy(sheets[sheet], i, sheets[other], j, n);
                return n;
            } catch (NullPointerException e) {
                return -11;
            } catch (ArrayStoreException e) {
                return -13;
            } catch (IndexOutOfBoundsException e) {
                return -12;
            }
        }

        int orders(int sheet, int sort, int from, int n) {
            if (!in(sheet, 0, 3) || !in(sort, 0, 2) || !in(n, 0, 8)) return -2;
            if (sheets[sheet] == null) return -11;
            Class<?> type = sort == 0 ? byte[].class : sort == 1 ? short[].class : int[].class;
            if (sheets[sheet].getClass() != type) return -13;
            int came = 0;
            try {
                for (int k = 0; k < n; k++) {
                    int[] three = new int[3];
                    for (int i = 0; i < 3; i++) three[i] = java.lang.reflect.Array.getInt(sheets[sheet], from + 3 * k + i);
                    if (order(three[0], three[1], three[2]) >= 0) came++;
                }
                return came;
            } catch (ArrayIndexOutOfBoundsException e) {
                return -12;
            }
        }

        int taken(int order, int k) {
            if (!in(k, 0, 5)) return -2;
            if (!in(order, 0, orders.size() - 1)) return -11;
            int[] under = {-1, 0, 0, 1, 2, 0};
            for (int kind = orders.get(order)[0]; kind >= 0; kind = under[kind]) if (kind == k) return orders.get(order)[1];
            return -13;
        }
    }
}
