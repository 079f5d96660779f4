/**
 * Letters that are sent on, from house to house, after one who moves.
 * The promises that the comments name are those of the document (DOC.md).
 *
 * All rows are made in the constructor and used again: no call makes an object,
 * so that any run of calls stays within the room that is given.
 */
public final class ThreeAddresses {
    public static final int NONE = -1, BAD = -2, STATE = -3, FULL = -4;
    public static final long NO = -4611686018427387904L;

    private static final int NOTHING_THERE = -11, PLACE_OUTSIDE = -12, OTHER_SORT = -13, SIZE_BELOW_ZERO = -14;
    private static final int NONE_SUCH = -100;

    private static final int HOUSES = 8, DAYS = 100, LAST_DAY = 99;
    private static final int MOST_MOVES = 6, MOST_ORDERS = 8, MOST_TEXTS = 6, MOST_BYTES = 160;
    private static final int FIRST_THICK = 9, MOST_THICK = 20, MOST_NUMBER = 9, MOST_OPEN = 5;

    private static final int ORDER = 0, SLOW = 1, NOW_AND_THEN = 2, BY_SHIP = 3, KIND_ONE = 4, FOR_GOOD = 5;
    private static final int KINDS = 6;

    private static final int HAS = 0, BACK = 1, LOST = 2, UNDER_WAY = -1;
    // A letter is stamped till it has one STAMP more than the most THICK, and is in one house more than that.
    private static final int MOST_STOPS = MOST_THICK + 2;
    // Above any DAY: the latest leaves on day 99, and is less than 100 days under way.
    private static final int NEVER = 1000;

    private static final int SHEETS = 4, MOST_ITEMS = 40, MOST_TOLD = 20;
    private static final int MISSING = -1, BYTES = 0, SHORTS = 1, INTS = 2;
    private static final int DRAWS = 10, MOST_SEEDS = 20;

    private static final String FIRST_TEXT = "takes 2 ; costs 5 + long ; minds 10 ;";
    private static final int TAKES = 0, COSTS = 1, MINDS = 2, PARTS = 3;
    private static final int NAMES = 6, WORDS = 12, MOST_DIGITS = 4;

    // Tokens that are no sign; a sign is its own token, and all signs are above these.
    private static final int END = 0, NUMBER = 1, NAME = 2, WRONG = 3;
    private static final int KEY_TAKES = 4, KEY_OR = 7, KEY_AND = 8, KEY_NOT = 9;

    // A text's code, in the order in which it is reckoned: below FIRST_NAME a number of the text itself.
    private static final int FIRST_NAME = 10000;
    private static final int DO_NEGATE = 10010, DO_NOT = 10011, DO_OR = 10012, DO_AND = 10013, DO_LESS = 10014;
    private static final int DO_SAME = 10015, DO_ADD = 10016, DO_TAKE_OFF = 10017, DO_TIMES = 10018;
    // Of each open ( five left sides may wait at most, and five of these may be open.
    private static final int STACK_ROOM = 40;

    private final Post post = new Post();
    private final Image kept = new Image();
    private final Tape tape = new Tape();
    private final Reader reader = new Reader(tape);
    private final Walk walk = new Walk();
    private final Sheet[] rows = new Sheet[SHEETS];

    /** Promise 1. */
    public ThreeAddresses() {
        for (int i = 0; i < SHEETS; i++) {
            rows[i] = new Sheet();
        }
        for (int i = 0; i < FIRST_TEXT.length(); i++) {
            tape.append(FIRST_TEXT.charAt(i));
        }
        reader.read(post.texts[0]);
        tape.size = 0;
        post.textCount = 1;
    }

    // ---- moves, orders

    /** Promise 2. */
    public int move(int day, int house) {
        if (!isDay(day) || !isHouse(house)) {
            return BAD;
        }
        if (post.moveCount > 0 && day <= post.moveDay[post.moveCount - 1]) {
            return STATE;
        }
        if (post.moveCount >= MOST_MOVES) {
            return FULL;
        }
        post.moveDay[post.moveCount] = day;
        post.moveHouse[post.moveCount] = house;
        post.moveCount++;
        post.settle();
        return post.moveCount;
    }

    /** Promise 3. */
    public int order(int what, int way, int days) {
        return addOrder(what, way, days);
    }

    private int addOrder(int what, int way, int days) {
        int kind = what / 10;
        int number = what % 10;
        int from = way / 10;
        int to = way % 10;
        int first = days / 100;
        int last = days % 100;
        boolean good = between(kind, 0, KINDS - 1) && between(number, 0, MOST_NUMBER)
            && isHouse(from) && isHouse(to) && from != to
            && isDay(first) && isDay(last) && first <= last;
        if (!good) {
            return BAD;
        }
        if (post.orderCount >= MOST_ORDERS) {
            return FULL;
        }
        int i = post.orderCount;
        post.orders[i].become(kind, number, from, to, first, last);
        post.putUp(i);
        post.orderCount++;
        return i;
    }

    /** Promise 4. */
    public int set(int what, int of, int v) {
        if (what == 0) {
            if (!between(v, 1, MOST_THICK)) {
                return NONE_SUCH;
            }
            int was = post.thick;
            post.thick = v;
            return was;
        }
        if (what == 6) {
            return setMoveHouse(of, v);
        }
        if (!between(what, 1, 5) || !isOrder(of) || !post.orders[of].takesOn(what, v)) {
            return NONE_SUCH;
        }
        int was = post.orders[of].item(what);
        post.takeDown(of);
        post.orders[of].change(what, v);
        post.putUp(of);
        return was;
    }

    private int setMoveHouse(int of, int house) {
        if (!isMove(of) || !isHouse(house)) {
            return NONE_SUCH;
        }
        int was = post.moveHouse[of];
        post.moveHouse[of] = house;
        post.settle();
        return was;
    }

    /** Promise 5. */
    public int told(int of, int what) {
        if (what == 0) {
            return post.thick;
        }
        if (what == 6 || what == 8) {
            if (!isMove(of)) {
                return NONE_SUCH;
            }
            return what == 6 ? post.moveHouse[of] : post.moveDay[of];
        }
        if (!between(what, 1, 7) || !isOrder(of)) {
            return NONE_SUCH;
        }
        return post.orders[of].item(what);
    }

    /** Promise 6. */
    public int lives(int day) {
        return isDay(day) ? post.homeOn(day) : BAD;
    }

    /** Promise 7. */
    public int sends(int order, int day, int what) {
        if (!isOrder(order) || !between(what, 0, 2)) {
            return BAD;
        }
        if (what == 2) {
            return post.costOf(order);
        }
        if (!isDay(day)) {
            return BAD;
        }
        if (what == 0) {
            return post.orders[order].goesOn(day) ? 1 : 0;
        }
        return post.daysUnderWay(order, day, 0, 0);
    }

    // ---- texts

    /** Promise 8. */
    public int feed(int letter) {
        if (!between(letter, 0, 255)) {
            return BAD;
        }
        if (tape.size >= MOST_BYTES) {
            return FULL;
        }
        tape.append(letter);
        return tape.size;
    }

    /** Promise 9. */
    public int text() {
        if (post.textCount >= MOST_TEXTS) {
            return FULL;
        }
        int fault = reader.read(post.texts[post.textCount]);
        tape.size = 0;
        if (fault != NONE) {
            return NONE_SUCH - fault;
        }
        post.textCount++;
        return post.textCount - 1;
    }

    /** Promise 10. */
    public int force(int text) {
        if (!between(text, 0, post.textCount - 1)) {
            return BAD;
        }
        int was = post.rule;
        post.rule = text;
        return was;
    }

    // ---- letters

    /** Promise 11. */
    public int letter(int house, int day, int what) {
        if (!isHouse(house) || !isDay(day) || !(between(what, 0, 4) || between(what, 10, 29))) {
            return BAD;
        }
        follow(house, day);
        switch (what) {
            case 0: return walk.end;
            case 1: return walk.day;
            case 2: return walk.house;
            case 3: return walk.stamps;
            case 4: return walk.underWay();
            default: return walk.stop(what - 10);
        }
    }

    /** Promise 12. */
    public int reaches(int house, int what) {
        if (!isHouse(house)) {
            return BAD;
        }
        switch (what) {
            case 0: return countReached(house, post.everyOrder());
            case 1: return lastReached(house);
            case 2: return griefOver(house);
            case 3: return longestReached(house);
            case 4: return countOvertaken(house);
            case 5: return firstRound(house);
            default: return BAD;
        }
    }

    private void follow(int house, int day) {
        walk.go(post, house, day, post.everyOrder());
    }

    private int countReached(int house, int set) {
        int count = 0;
        for (int day = 0; day < DAYS; day++) {
            walk.go(post, house, day, set);
            if (walk.end == HAS) {
                count++;
            }
        }
        return count;
    }

    private int lastReached(int house) {
        for (int day = LAST_DAY; day >= 0; day--) {
            follow(house, day);
            if (walk.end == HAS) {
                return day;
            }
        }
        return NONE;
    }

    private int griefOver(int house) {
        int grief = 0;
        for (int day = 0; day < DAYS; day++) {
            follow(house, day);
            if (walk.end != HAS) {
                grief += post.griefOf(house, day, walk.stamps, walk.underWay());
            }
        }
        return grief;
    }

    private int longestReached(int house) {
        int longest = NONE;
        for (int day = 0; day < DAYS; day++) {
            follow(house, day);
            if (walk.end == HAS) {
                longest = Math.max(longest, walk.underWay());
            }
        }
        return longest;
    }

    private int countOvertaken(int house) {
        int count = 0;
        int soonestOfLater = NEVER;
        for (int day = LAST_DAY; day >= 0; day--) {
            follow(house, day);
            if (walk.end == HAS) {
                if (walk.day > soonestOfLater) {
                    count++;
                }
                soonestOfLater = Math.min(soonestOfLater, walk.day);
            }
        }
        return count;
    }

    private int firstRound(int house) {
        for (int day = 0; day < DAYS; day++) {
            follow(house, day);
            if (walk.twice) {
                return day;
            }
        }
        return NONE;
    }

    // ---- what would be best

    /** Promise 13. */
    public int needless(int house, int what) {
        if (!isHouse(house) || !between(what, 0, 2)) {
            return BAD;
        }
        int now = countReached(house, post.everyOrder());
        if (what == 0) {
            return needlessOrders(house, now);
        }
        int cheapest = cheapestEnough(house, now);
        return what == 1 ? cheapest : post.sumOfPrices(cheapest);
    }

    private int needlessOrders(int house, int now) {
        int bits = 0;
        for (int i = 0; i < post.orderCount; i++) {
            if (isEnough(house, post.everyOrder() & ~(1 << i), now)) {
                bits |= 1 << i;
            }
        }
        return bits;
    }

    private int cheapestEnough(int house, int now) {
        int all = post.everyOrder();
        int best = all;
        post.priceOrders();
        int least = post.sumOfPrices(all) + 1;
        for (int set = 0; set <= all; set++) {
            int cost = post.sumOfPrices(set);
            if (cost < least && isEnough(house, set, now)) {
                best = set;
                least = cost;
            }
        }
        return best;
    }

    /** Whether he would have as many as needed; stops as soon as too many are missed. */
    private boolean isEnough(int house, int set, int needed) {
        int mayMiss = DAYS - needed;
        for (int day = 0; day < DAYS && mayMiss >= 0; day++) {
            walk.go(post, house, day, set);
            if (walk.end != HAS) {
                mayMiss--;
            }
        }
        return mayMiss >= 0;
    }

    /** Promise 14. */
    public int oneMore(int house, int day, int what) {
        if (!isHouse(house) || !isDay(day) || !between(what, 0, 1)) {
            return BAD;
        }
        if (post.orderCount >= MOST_ORDERS) {
            return FULL;
        }
        int most = countReached(house, post.everyOrder());
        int best = NONE;
        for (int way = 0; way < 10 * HOUSES; way++) {
            int from = way / 10;
            int to = way % 10;
            if (isHouse(to) && from != to) {
                int then = countWithOneMore(house, from, to, day);
                if (then > most) {
                    most = then;
                    best = way;
                }
            }
        }
        return what == 0 ? best : most;
    }

    /** The order stands behind all others while it is tried, in a place that is free. */
    private int countWithOneMore(int house, int from, int to, int day) {
        int i = post.orderCount;
        post.orders[i].become(ORDER, 0, from, to, day, LAST_DAY);
        post.putUp(i);
        int count = countReached(house, post.everyOrder() | 1 << i);
        post.takeDown(i);
        return count;
    }

    /** Promise 15. */
    public int thicker(int house) {
        if (!isHouse(house)) {
            return BAD;
        }
        int was = post.thick;
        post.thick = MOST_THICK;
        int most = countReached(house, post.everyOrder());
        int least = 1;
        while (least < MOST_THICK) {
            post.thick = least;
            if (isEnough(house, post.everyOrder(), most)) {
                break;
            }
            least++;
        }
        post.thick = was;
        return least;
    }

    // ---- covers

    /** Promise 16. */
    public int covers(int sheet, int what) {
        boolean asksOfOrder = what >= 10 && isOrder(what - 10);
        if (!isSheet(sheet) || !(between(what, 0, 3) || asksOfOrder)) {
            return BAD;
        }
        Sheet seen = rows[sheet];
        if (seen.sort == MISSING) {
            return NOTHING_THERE;
        }
        if (!seen.tellsHouses()) {
            return BAD;
        }
        switch (what) {
            case 0: return countCovers(seen);
            case 1: return firstCover(seen);
            case 2: return ordersOfCovers(seen);
            case 3: return textsOfCovers(seen);
            default: return kindsOfCovers(seen, what - 10);
        }
    }

    private boolean isCover(Sheet seen, int day) {
        walk.go(post, seen.items[0], day, post.everyOrder());
        return walk.wasInJust(seen);
    }

    private int countCovers(Sheet seen) {
        int count = 0;
        for (int day = 0; day < DAYS; day++) {
            if (isCover(seen, day)) {
                count++;
            }
        }
        return count;
    }

    private int firstCover(Sheet seen) {
        for (int day = 0; day < DAYS; day++) {
            if (isCover(seen, day)) {
                return day;
            }
        }
        return NONE;
    }

    private int ordersOfCovers(Sheet seen) {
        int bits = 0;
        for (int day = 0; day < DAYS; day++) {
            if (isCover(seen, day)) {
                bits |= walk.by;
            }
        }
        return bits;
    }

    private int textsOfCovers(Sheet seen) {
        int was = post.rule;
        int bits = 0;
        for (int t = 0; t < post.textCount; t++) {
            post.rule = t;
            if (firstCover(seen) != NONE) {
                bits |= 1 << t;
            }
        }
        post.rule = was;
        return bits;
    }

    private int kindsOfCovers(Sheet seen, int order) {
        int was = post.orders[order].kind;
        int bits = 0;
        for (int kind = 0; kind < KINDS; kind++) {
            post.changeKind(order, kind);
            if (firstCover(seen) != NONE) {
                bits |= 1 << kind;
            }
        }
        post.changeKind(order, was);
        return bits;
    }

    /** Promise 17. */
    public int film(int sheet, int house, int day) {
        if (!isSheet(sheet) || !isHouse(house) || !isDay(day)) {
            return BAD;
        }
        follow(house, day);
        Sheet row = rows[sheet];
        row.become(BYTES, Math.min(walk.stops, MOST_TOLD));
        for (int i = 0; i < row.size; i++) {
            row.put(i, walk.stop(i));
        }
        return row.size;
    }

    /** Promise 18. */
    public int drawn(int house, int seed) {
        return isHouse(house) ? countDrawn(house, seed) : BAD;
    }

    private int countDrawn(int house, int seed) {
        int count = 0;
        int z = seed;
        for (int i = 0; i < DRAWS; i++) {
            z = z * 1103515245 + 12345;
            follow(house, (z >>> 9) % DAYS);
            if (walk.end == HAS) {
                count++;
            }
        }
        return count;
    }

    /** Promise 19. */
    public long chance(int house, int seed, int n, int least, int part) {
        boolean good = isHouse(house) && between(n, 1, MOST_SEEDS) && between(least, 0, DRAWS) && between(part, 0, 1);
        if (!good) {
            return NO;
        }
        int hits = 0;
        for (int i = 0; i < n; i++) {
            if (countDrawn(house, seed + i) >= least) {
                hits++;
            }
        }
        int shared = commonDivisor(hits, n);
        return (part == 0 ? hits : n) / shared;
    }

    /** The greatest that divides both; b is 1 .. MOST_SEEDS, so that the answer is 1 at least. */
    private static int commonDivisor(int a, int b) {
        for (int d = MOST_SEEDS; d > 1; d--) {
            if (a % d == 0 && b % d == 0) {
                return d;
            }
        }
        return 1;
    }

    /** Promise 20. */
    public int image() {
        kept.take(post);
        return post.orderCount;
    }

    /** Promise 21. */
    public int back() {
        if (!kept.exists) {
            return STATE;
        }
        kept.restore(post);
        return post.orderCount;
    }

    /** Promise 22. */
    public int count(int what) {
        switch (what) {
            case 0: return post.orderCount;
            case 1: return post.moveCount;
            case 2: return post.thick;
            case 3: return post.textCount;
            case 4: return tape.size;
            case 5: return post.rule;
            default: return BAD;
        }
    }

    // ---- the host

    /** Promise 23. */
    public int sheet(int sheet, int sort, int n) {
        if (!isSheet(sheet) || !between(sort, MISSING, INTS)) {
            return BAD;
        }
        if (sort == MISSING) {
            rows[sheet].become(MISSING, 0);
            return 1;
        }
        if (n > MOST_ITEMS) {
            return BAD;
        }
        if (n < 0) {
            return SIZE_BELOW_ZERO;
        }
        rows[sheet].become(sort, n);
        return 1;
    }

    /** Promise 24. */
    public int cell(int sheet, int i, int v) {
        if (!isSheet(sheet)) {
            return BAD;
        }
        Sheet row = rows[sheet];
        if (row.sort == MISSING) {
            return NOTHING_THERE;
        }
        if (!between(i, 0, row.size - 1)) {
            return PLACE_OUTSIDE;
        }
        row.put(i, v);
        return 1;
    }

    /** Promise 25. */
    public int copy(int sheet, int i, int other, int j, int n) {
        if (!isSheet(sheet) || !isSheet(other)) {
            return BAD;
        }
        Sheet source = rows[sheet];
        Sheet target = rows[other];
        if (source.sort == MISSING || target.sort == MISSING) {
            return NOTHING_THERE;
        }
        if (source.sort != target.sort) {
            return OTHER_SORT;
        }
        if (!source.holds(i, n) || !target.holds(j, n)) {
            return PLACE_OUTSIDE;
        }
        System.arraycopy(source.items, i, target.items, j, n);
        return n;
    }

    /** Promise 26. */
    public int orders(int sheet, int sort, int from, int n) {
        if (!isSheet(sheet) || !between(sort, BYTES, INTS) || !between(n, 0, MOST_ORDERS)) {
            return BAD;
        }
        Sheet row = rows[sheet];
        if (row.sort == MISSING) {
            return NOTHING_THERE;
        }
        if (row.sort != sort) {
            return OTHER_SORT;
        }
        int came = 0;
        int at = from;
        for (int k = 0; k < n; k++) {
            if (!row.holds(at, 3)) {
                return PLACE_OUTSIDE;
            }
            if (addOrder(row.items[at], row.items[at + 1], row.items[at + 2]) >= 0) {
                came++;
            }
            at += 3;
        }
        return came;
    }

    /** Promise 27. */
    public int taken(int order, int k) {
        if (!between(k, 0, KINDS - 1)) {
            return BAD;
        }
        if (!isOrder(order)) {
            return NOTHING_THERE;
        }
        return isUnder(post.orders[order].kind, k) ? post.orders[order].number : OTHER_SORT;
    }

    /** Whether a kind is k, or under it. */
    private static boolean isUnder(int kind, int k) {
        return kind == k || k == ORDER || kind == BY_SHIP && k == SLOW || kind == KIND_ONE && k == NOW_AND_THEN;
    }

    private static boolean between(int v, int low, int high) {
        return low <= v && v <= high;
    }

    private static boolean isHouse(int house) {
        return between(house, 0, HOUSES - 1);
    }

    private static boolean isDay(int day) {
        return between(day, 0, LAST_DAY);
    }

    private static boolean isSheet(int sheet) {
        return between(sheet, 0, SHEETS - 1);
    }

    private boolean isOrder(int order) {
        return between(order, 0, post.orderCount - 1);
    }

    private boolean isMove(int move) {
        return between(move, 0, post.moveCount - 1);
    }

    /** An order to send letters on; its fields always hold what the document allows. */
    private static final class Order {
        int kind;
        int number;
        int from;
        int to;
        int first;
        int last;

        void become(int newKind, int newNumber, int newFrom, int newTo, int newFirst, int newLast) {
            kind = newKind;
            number = newNumber;
            from = newFrom;
            to = newTo;
            first = newFirst;
            last = newLast;
        }

        void become(Order other) {
            become(other.kind, other.number, other.from, other.to, other.first, other.last);
        }

        /** By the numbers of set() and told(). */
        int item(int what) {
            switch (what) {
                case 1: return number;
                case 2: return from;
                case 3: return to;
                case 4: return first;
                case 5: return last;
                case 7: return kind;
                default: return NONE_SUCH;
            }
        }

        boolean takesOn(int what, int v) {
            switch (what) {
                case 1: return between(v, 0, MOST_NUMBER);
                case 2: return isHouse(v) && v != to;
                case 3: return isHouse(v) && v != from;
                case 4: return between(v, 0, last);
                case 5: return between(v, first, LAST_DAY);
                default: return false;
            }
        }

        void change(int what, int v) {
            switch (what) {
                case 1: number = v; break;
                case 2: from = v; break;
                case 3: to = v; break;
                case 4: first = v; break;
                case 5: last = v; break;
                default: break;
            }
        }

        boolean goesOn(int day) {
            boolean stands = between(day, first, last);
            switch (kind) {
                case NOW_AND_THEN: return stands && isTurn(day);
                case BY_SHIP: return stands && day != first;
                case KIND_ONE: return stands && isTurn(day) || between(day, last + 1, last + number);
                case FOR_GOOD: return day >= first;
                default: return stands;
            }
        }

        private boolean isTurn(int day) {
            int step = number + 1;
            return step > 0 && day % step == 0;
        }

        /** How long a letter is under way by it, where the rule says v; v is 1 at least, and so is the answer. */
        int lasting(int v) {
            switch (kind) {
                case SLOW: return v + number;
                case BY_SHIP: return 2 * (v + number);
                case KIND_ONE: return v + 1;
                default: return v;
            }
        }
    }

    /** All by which letters go: where he lives, the orders, the texts. */
    private static final class Post {
        int thick = FIRST_THICK;
        int moveCount;
        final int[] moveDay = new int[MOST_MOVES];
        final int[] moveHouse = new int[MOST_MOVES];
        int orderCount;
        final Order[] orders = new Order[MOST_ORDERS];
        int textCount;
        final Text[] texts = new Text[MOST_TEXTS];
        int rule;
        // Kept along with the moves and orders, so that following a letter need not ask each of them each day.
        private final int[] home = new int[DAYS];
        private final int[] senders = new int[HOUSES * DAYS];
        private final int[] prices = new int[MOST_ORDERS];
        private final int[] names = new int[NAMES];

        Post() {
            for (int i = 0; i < MOST_ORDERS; i++) {
                orders[i] = new Order();
            }
            for (int i = 0; i < MOST_TEXTS; i++) {
                texts[i] = new Text();
            }
        }

        /** Lays out anew where he lives; called whenever a move has come, gone or changed. */
        void settle() {
            int house = 0;
            int next = 0;
            for (int day = 0; day < DAYS; day++) {
                if (next < moveCount && moveDay[next] == day) {
                    house = moveHouse[next];
                    next++;
                }
                home[day] = house;
            }
        }

        int homeOn(int day) {
            return day > LAST_DAY ? home[LAST_DAY] : home[day];
        }

        int everyOrder() {
            return (1 << orderCount) - 1;
        }

        /** Notes an order's days; takeDown() comes ahead of any change to it, putUp() behind. */
        void putUp(int i) {
            Order order = orders[i];
            for (int day = 0; day < DAYS; day++) {
                if (order.goesOn(day)) {
                    senders[order.from * DAYS + day] |= 1 << i;
                }
            }
        }

        void takeDown(int i) {
            int row = orders[i].from * DAYS;
            for (int day = 0; day < DAYS; day++) {
                senders[row + day] &= ~(1 << i);
            }
        }

        void changeKind(int i, int kind) {
            takeDown(i);
            orders[i].kind = kind;
            putUp(i);
        }

        /** The first day, from this one on, on which a letter that lies in a house may leave it; else the last. */
        int nextChange(int house, int day, int set) {
            int row = house * DAYS;
            int at = day;
            while (at < LAST_DAY && home[at] != house && (senders[row + at] & set) == 0) {
                at++;
            }
            return at;
        }

        /** The first order, of a set, that sends from a house on a day 0 .. 99. */
        int firstSender(int house, int day, int set) {
            int bits = senders[house * DAYS + day] & set;
            return bits == 0 ? NONE : Integer.bitCount((bits & -bits) - 1);
        }

        int daysUnderWay(int i, int day, int stamps, int underWay) {
            Order order = orders[i];
            name(day, order.from, stamps, order.number, i, underWay);
            return order.lasting(within(texts[rule].reckon(TAKES, names), 1, 40));
        }

        int costOf(int i) {
            Order order = orders[i];
            name(order.first, order.from, 0, order.number, i, order.last - order.first);
            return within(texts[rule].reckon(COSTS, names), 0, 99);
        }

        int griefOf(int house, int day, int stamps, int underWay) {
            name(day, house, stamps, 0, 0, underWay);
            return within(texts[rule].reckon(MINDS, names), 0, 999);
        }

        private void name(int day, int house, int stamps, int number, int order, int underWay) {
            names[0] = day;
            names[1] = house;
            names[2] = stamps;
            names[3] = number;
            names[4] = order;
            names[5] = underWay;
        }

        private static int within(int v, int low, int high) {
            return v < low ? low : v > high ? high : v;
        }

        /** Reckons what each order costs; sumOfPrices() adds these up, for many sets. */
        void priceOrders() {
            for (int i = 0; i < orderCount; i++) {
                prices[i] = costOf(i);
            }
        }

        int sumOfPrices(int set) {
            int sum = 0;
            for (int i = 0; i < orderCount; i++) {
                if ((set >> i & 1) != 0) {
                    sum += prices[i];
                }
            }
            return sum;
        }
    }

    /** One letter, followed to its end. */
    private static final class Walk {
        int end;
        int day;
        int house;
        int stamps;
        int stops;
        int by;
        boolean twice;
        private int written;
        private final int[] trail = new int[MOST_STOPS];

        /** Follows a letter as if there were just the orders of a set (bits). */
        void go(Post post, int toHouse, int onDay, int set) {
            end = UNDER_WAY;
            day = onDay;
            written = onDay;
            house = toHouse;
            stamps = 0;
            by = 0;
            twice = false;
            trail[0] = toHouse;
            stops = 1;
            for (int i = 0; i < MOST_STOPS && end == UNDER_WAY; i++) {
                if (post.homeOn(day) == house) {
                    end = HAS;
                } else if (stamps > post.thick || day > LAST_DAY) {
                    end = BACK;
                } else {
                    stayAndLeave(post, set);
                }
            }
        }

        private void stayAndLeave(Post post, int set) {
            day = post.nextChange(house, day, set);
            int sender = post.firstSender(house, day, set);
            if (post.homeOn(day) == house) {
                end = HAS;
            } else if (sender == NONE) {
                end = LOST;
            } else {
                day += post.daysUnderWay(sender, day, stamps, underWay());
                house = post.orders[sender].to;
                stamps++;
                twice = twice || (by >> sender & 1) != 0;
                by |= 1 << sender;
                noteStop();
            }
        }

        private void noteStop() {
            if (stops < MOST_STOPS) {
                trail[stops] = house;
                stops++;
            }
        }

        int underWay() {
            return day - written;
        }

        int stop(int i) {
            return between(i, 0, stops - 1) ? trail[i] : NONE;
        }

        boolean wasInJust(Sheet seen) {
            if (seen.size != stops) {
                return false;
            }
            for (int i = 0; i < stops; i++) {
                if (seen.items[i] != trail[i]) {
                    return false;
                }
            }
            return true;
        }
    }

    /** What image() keeps. */
    private static final class Image {
        boolean exists;
        private int thick;
        private int rule;
        private int moveCount;
        private final int[] moveDay = new int[MOST_MOVES];
        private final int[] moveHouse = new int[MOST_MOVES];
        private int orderCount;
        private final Order[] orders = new Order[MOST_ORDERS];

        Image() {
            for (int i = 0; i < MOST_ORDERS; i++) {
                orders[i] = new Order();
            }
        }

        void take(Post post) {
            exists = true;
            thick = post.thick;
            rule = post.rule;
            moveCount = post.moveCount;
            System.arraycopy(post.moveDay, 0, moveDay, 0, MOST_MOVES);
            System.arraycopy(post.moveHouse, 0, moveHouse, 0, MOST_MOVES);
            orderCount = post.orderCount;
            for (int i = 0; i < orderCount; i++) {
                orders[i].become(post.orders[i]);
            }
        }

        void restore(Post post) {
            post.thick = thick;
            post.rule = rule;
            post.moveCount = moveCount;
            System.arraycopy(moveDay, 0, post.moveDay, 0, MOST_MOVES);
            System.arraycopy(moveHouse, 0, post.moveHouse, 0, MOST_MOVES);
            post.settle();
            for (int i = 0; i < post.orderCount; i++) {
                post.takeDown(i);
            }
            post.orderCount = orderCount;
            for (int i = 0; i < orderCount; i++) {
                post.orders[i].become(orders[i]);
                post.putUp(i);
            }
        }
    }

    /** A row of numbers, or missing; its items are kept as its sort leaves them. */
    private static final class Sheet {
        int sort = MISSING;
        int size;
        final int[] items = new int[MOST_ITEMS];

        void become(int newSort, int n) {
            sort = newSort;
            size = n;
            for (int i = 0; i < MOST_ITEMS; i++) {
                items[i] = 0;
            }
        }

        void put(int i, int v) {
            if (sort == BYTES) {
                items[i] = (byte) v;
            } else if (sort == SHORTS) {
                items[i] = (short) v;
            } else {
                items[i] = v;
            }
        }

        /** Whether n items from i on are all inside. */
        boolean holds(int i, int n) {
            return i >= 0 && n >= 0 && i <= size && n <= size - i;
        }

        boolean tellsHouses() {
            for (int i = 0; i < size; i++) {
                if (!isHouse(items[i])) {
                    return false;
                }
            }
            return between(size, 1, MOST_TOLD);
        }
    }

    /** The tape, cut into tokens. */
    private static final class Tape {
        int size;
        int token;
        int place;
        int value;
        private int pos;
        private final int[] bytes = new int[MOST_BYTES];

        void append(int b) {
            if (size < MOST_BYTES) {
                bytes[size] = b;
                size++;
            }
        }

        void rewind() {
            pos = 0;
            next();
        }

        /** Goes to the next token; place is where it begins, or the size where there is none. */
        void next() {
            while (pos < size && (bytes[pos] == ' ' || bytes[pos] == '\n')) {
                pos++;
            }
            place = pos;
            if (pos >= size) {
                token = END;
            } else if (between(bytes[pos], 'a', 'z')) {
                readWord();
            } else if (between(bytes[pos], '0', '9')) {
                readNumber();
            } else {
                token = isSign(bytes[pos]) ? bytes[pos] : WRONG;
                pos++;
            }
        }

        private void readWord() {
            while (pos < size && between(bytes[pos], 'a', 'z')) {
                pos++;
            }
            token = WRONG;
            for (int i = 0; i < WORDS && token == WRONG; i++) {
                if (spells(word(i))) {
                    token = i < NAMES ? NAME : KEY_TAKES + i - NAMES;
                    value = i;
                }
            }
        }

        private void readNumber() {
            value = 0;
            while (pos < size && between(bytes[pos], '0', '9')) {
                value = value * 10 + bytes[pos] - '0';
                pos++;
            }
            token = pos - place > MOST_DIGITS ? WRONG : NUMBER;
        }

        private boolean spells(String word) {
            if (word.length() != pos - place) {
                return false;
            }
            for (int i = 0; i < word.length(); i++) {
                if (word.charAt(i) != bytes[place + i]) {
                    return false;
                }
            }
            return true;
        }

        private static boolean isSign(int b) {
            switch (b) {
                case '(': case ')': case ';': case '+': case '-': case '*': case '<': case '=': return true;
                default: return false;
            }
        }

        /** Names in the order of Post.name(), then keys in the order of their tokens. */
        private static String word(int i) {
            switch (i) {
                case 0: return "day";
                case 1: return "house";
                case 2: return "stamps";
                case 3: return "number";
                case 4: return "order";
                case 5: return "long";
                case 6: return "takes";
                case 7: return "costs";
                case 8: return "minds";
                case 9: return "or";
                case 10: return "and";
                default: return "not";
            }
        }
    }

    /**
     * Reads the tape as a text. Each part answers whether it could be read; where it could not,
     * the tape stands at the token that can't stand there. open tells how many of ( not - are open.
     */
    private static final class Reader {
        private final Tape tape;
        private Text out;

        Reader(Tape tape) {
            this.tape = tape;
        }

        /** The place of the fault, or NONE. */
        int read(Text into) {
            out = into;
            out.clear();
            tape.rewind();
            for (int part = 0; part < PARTS; part++) {
                if (tape.token != KEY_TAKES + part) {
                    return tape.place;
                }
                tape.next();
                if (!either(0) || tape.token != ';') {
                    return tape.place;
                }
                tape.next();
                out.close(part);
            }
            return tape.token == END ? NONE : tape.place;
        }

        private boolean either(int open) {
            boolean good = both(open);
            for (int i = 0; good && tape.token == KEY_OR && i < MOST_BYTES; i++) {
                tape.next();
                good = both(open);
                out.add(DO_OR);
            }
            return good;
        }

        private boolean both(int open) {
            boolean good = compared(open);
            for (int i = 0; good && tape.token == KEY_AND && i < MOST_BYTES; i++) {
                tape.next();
                good = compared(open);
                out.add(DO_AND);
            }
            return good;
        }

        private boolean compared(int open) {
            if (tape.token == KEY_NOT) {
                if (open >= MOST_OPEN) {
                    return false;
                }
                tape.next();
                boolean good = compared(open + 1);
                out.add(DO_NOT);
                return good;
            }
            boolean good = sum(open);
            if (good && (tape.token == '<' || tape.token == '=')) {
                int sign = tape.token == '<' ? DO_LESS : DO_SAME;
                tape.next();
                good = sum(open);
                out.add(sign);
            }
            return good;
        }

        private boolean sum(int open) {
            boolean good = term(open);
            for (int i = 0; good && (tape.token == '+' || tape.token == '-') && i < MOST_BYTES; i++) {
                int sign = tape.token == '+' ? DO_ADD : DO_TAKE_OFF;
                tape.next();
                good = term(open);
                out.add(sign);
            }
            return good;
        }

        private boolean term(int open) {
            boolean good = one(open);
            for (int i = 0; good && tape.token == '*' && i < MOST_BYTES; i++) {
                tape.next();
                good = one(open);
                out.add(DO_TIMES);
            }
            return good;
        }

        private boolean one(int open) {
            if (tape.token == NUMBER || tape.token == NAME) {
                out.add(tape.token == NUMBER ? tape.value : FIRST_NAME + tape.value);
                tape.next();
                return true;
            }
            if (tape.token != '-' && tape.token != '(' || open >= MOST_OPEN) {
                return false;
            }
            if (tape.token == '-') {
                tape.next();
                boolean good = one(open + 1);
                out.add(DO_NEGATE);
                return good;
            }
            tape.next();
            if (!either(open + 1) || tape.token != ')') {
                return false;
            }
            tape.next();
            return true;
        }
    }

    /** A text that was read: code that is reckoned from left to right on a stack. */
    private static final class Text {
        private int size;
        private final int[] code = new int[MOST_BYTES];
        private final int[] ends = new int[PARTS];
        private final int[] stack = new int[STACK_ROOM];

        void clear() {
            size = 0;
        }

        void add(int step) {
            if (size < MOST_BYTES) {
                code[size] = step;
                size++;
            }
        }

        void close(int part) {
            ends[part] = size;
        }

        /** One method, not several: it is called for every stamp of every letter. */
        int reckon(int part, int[] names) {
            int top = 0;
            for (int i = part == 0 ? 0 : ends[part - 1]; i < ends[part]; i++) {
                int step = code[i];
                int right = top > 0 ? stack[top - 1] : 0;
                int left = top > 1 ? stack[top - 2] : 0;
                int value;
                switch (step) {
                    case DO_NEGATE: value = -right; break;
                    case DO_NOT: value = right == 0 ? 1 : 0; break;
                    case DO_OR: value = left != 0 || right != 0 ? 1 : 0; break;
                    case DO_AND: value = left != 0 && right != 0 ? 1 : 0; break;
                    case DO_LESS: value = left < right ? 1 : 0; break;
                    case DO_SAME: value = left == right ? 1 : 0; break;
                    case DO_ADD: value = left + right; break;
                    case DO_TAKE_OFF: value = left - right; break;
                    case DO_TIMES: value = left * right; break;
                    default: value = step < FIRST_NAME ? step : names[step - FIRST_NAME]; break;
                }
                if (step < DO_NEGATE) {
                    top++;
                } else if (step > DO_NOT) {
                    top--;
                }
                if (top >= 1 && top <= STACK_ROOM) {
                    stack[top - 1] = value;
                }
            }
            return stack[0];
        }
    }
}
