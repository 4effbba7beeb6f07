import java.util.Arrays;

/**
 * Small groups of four families, signatures, the maps of a signature onto the group, the surfaces
 * that these turn, their moves and classes, shelves and an image.
 *
 * Every array is made in a constructor and used again, so that no call makes an object.
 */
public final class TurningGroups {
    public static final int NONE = -1, BAD = -2, STATE = -3, FULL = -4;

    private static final int MOST_ELEMENTS = 8;
    private static final int MOST_SETS = 256;
    private static final int MOST_DIGITS = 4;
    private static final int LEAST_PERIOD = 2;
    private static final int MOST_PERIOD = 8;
    private static final int MOST_POWER = 99;
    private static final int MOST_GENUS = 9;
    private static final int SHELVES = 4;
    // The last x of a row follows from what stands ahead of it, so that three digits at most are free.
    private static final int MOST_MAPS = 512;
    // Three moves of neighbours and eight of elements, or one, eight and two of the handle.
    private static final int MOST_MOVES = 11;
    // Far above the 210 rows of four rising periods.
    private static final int MOST_SIGNATURES = 10000;

    private final Group turning;
    private final Signature signature;
    private final Rows rows;
    private final Maps maps;
    private final Classes sorted;
    private final Signature tried;
    private final Maps triedMaps;
    // What a shelf holds as one number (see packed), 0: it is empty.
    private final int[] shelves;
    private final int[] imageShelves;
    // 0: there is no image.
    private int imagePacked;

    public TurningGroups() {
        turning = new Group();
        signature = new Signature();
        rows = new Rows(turning, signature);
        maps = new Maps(rows, MOST_MAPS);
        sorted = new Classes(maps);
        tried = new Signature();
        // One map is enough to know that there are any.
        triedMaps = new Maps(new Rows(turning, tried), 1);
        shelves = new int[SHELVES];
        imageShelves = new int[SHELVES];
        imagePacked = 0;
    }

    // ---- the group

    public int group(int family, int n) {
        if (!Group.exists(family, n)) {
            return BAD;
        }
        turning.become(family, n);
        forgetMaps();
        return turning.size;
    }

    public int of(int a, int what) {
        if (!turning.isElement(a)) {
            return BAD;
        }
        switch (what) {
            case 0:
                return turning.orders[a];
            case 1:
                return turning.inverses[a];
            case 2:
                return Integer.bitCount(turning.conjugatesOf(a));
            default:
                return BAD;
        }
    }

    public int times(int a, int b) {
        return turning.isElement(a) && turning.isElement(b) ? turning.product(a, b) : BAD;
    }

    public int power(int a, int k) {
        return turning.isElement(a) && k >= 0 && k <= MOST_POWER ? turning.powerOf(a, k) : BAD;
    }

    public int conjugate(int a, int b) {
        return turning.isElement(a) && turning.isElement(b) ? turning.conjugated(a, b) : BAD;
    }

    public int span(int set) {
        return turning.isSet(set) ? turning.spanOf(set) : BAD;
    }

    public int subgroup(int k) {
        int seen = 0;
        for (int set = 0; set <= turning.whole(); set++) {
            if (turning.isSubgroup(set)) {
                if (seen == k) {
                    return set;
                }
                seen++;
            }
        }
        return k == -1 ? seen : NONE;
    }

    public int normal(int set) {
        if (!turning.isSubgroup(set)) {
            return BAD;
        }
        return turning.isNormal(set) ? 1 : 0;
    }

    public int centre(int what) {
        if (what < 0 || what > MOST_ELEMENTS) {
            return BAD;
        }
        return what == 0 ? turning.centreSet() : turning.countOfOrder(what);
    }

    // ---- the signature

    public int handles(int h) {
        if (h < 0 || h > 1) {
            return BAD;
        }
        if (2 * h + signature.count > MOST_DIGITS) {
            return FULL;
        }
        int before = signature.handles;
        signature.handles = h;
        forgetMaps();
        return before;
    }

    public int period(int m) {
        if (m < LEAST_PERIOD || m > MOST_PERIOD) {
            return BAD;
        }
        if (signature.digits() >= MOST_DIGITS) {
            return FULL;
        }
        signature.add(m);
        forgetMaps();
        return signature.count;
    }

    public int drop() {
        if (signature.count < 1) {
            return STATE;
        }
        signature.count--;
        forgetMaps();
        return signature.count;
    }

    public int periodOf(int i) {
        return signature.hasPeriod(i) ? signature.periods[i] : NONE;
    }

    // ---- maps

    public int map(int k) {
        maps.prepare();
        if (k == -1) {
            return maps.count;
        }
        return maps.has(k) ? maps.codes[k] : NONE;
    }

    public int row(int code) {
        return rows.read(code) ? rows.kind() : Rows.NO_ROW;
    }

    public int genus() {
        return signature.genusOver(turning.size);
    }

    public int fixed(int k, int b) {
        maps.prepare();
        if (!readsMap(k) || b < 1 || !turning.isElement(b)) {
            return BAD;
        }
        int all = 0;
        for (int i = 0; i < signature.count; i++) {
            all += turning.fixedPlaces(turning.spanOf(1 << rows.elementOfPeriod(i)), b);
        }
        return all;
    }

    public int left(int k, int set) {
        maps.prepare();
        if (!readsMap(k) || !turning.isSubgroup(set)) {
            return BAD;
        }
        int twoLess = turning.indexOf(set) * (2 - 2 * signature.handles - signature.count);
        for (int i = 0; i < signature.count; i++) {
            twoLess += turning.setsBetween(set, turning.spanOf(1 << rows.elementOfPeriod(i)));
        }
        return (2 - twoLess) / 2;
    }

    public int behind(int k, int set, int i) {
        maps.prepare();
        if (!readsMap(k) || !turning.isSubgroup(set) || !signature.hasPeriod(i)) {
            return BAD;
        }
        if (!turning.isNormal(set)) {
            return STATE;
        }
        return turning.orderBehind(set, rows.elementOfPeriod(i));
    }

    // ---- moves, classes

    public int move(int code, int move) {
        if (!rows.read(code) || rows.kind() == Rows.NO_ROW || !rows.moveBy(move)) {
            return BAD;
        }
        return rows.code();
    }

    public int classes(int what) {
        sorted.prepare();
        switch (what) {
            case 0:
                return sorted.count;
            case 1:
                return sorted.sizeOf(sorted.greatest());
            case 2:
                return sorted.greatest();
            default:
                return BAD;
        }
    }

    public int classOf(int code) {
        sorted.prepare();
        int index = maps.indexOf(code);
        return maps.has(index) ? sorted.numbers[index] : NONE;
    }

    public int member(int c, int i) {
        sorted.prepare();
        if (c < 0 || c >= sorted.count) {
            return BAD;
        }
        return i == -1 ? sorted.sizeOf(c) : sorted.codeOf(c, i);
    }

    public int apart(int code, int other) {
        sorted.prepare();
        int from = maps.indexOf(code);
        int to = maps.indexOf(other);
        return maps.has(from) && maps.has(to) ? sorted.distance(from, to) : BAD;
    }

    // ---- found, shelves

    public int found(int h, int r, int g, int k) {
        if (h < 0 || h > 1 || r < 0 || 2 * h > MOST_DIGITS - r || g < 0 || g > MOST_GENUS) {
            return BAD;
        }
        tried.start(h, r);
        int seen = 0;
        boolean more = true;
        for (int step = 0; more && step < MOST_SIGNATURES; step++) {
            if (tried.genusOver(turning.size) == g) {
                triedMaps.find();
                if (triedMaps.has(0) && seen == k) {
                    return tried.periodDigits();
                }
                seen += triedMaps.count;
            }
            more = tried.advance();
        }
        return k == -1 ? seen : NONE;
    }

    public int keep(int shelf) {
        if (!isShelf(shelf)) {
            return BAD;
        }
        shelves[shelf] = packed();
        return shelvesInUse();
    }

    public int use(int shelf) {
        if (!isShelf(shelf)) {
            return BAD;
        }
        if (shelves[shelf] == 0) {
            return STATE;
        }
        unpack(shelves[shelf]);
        return turning.size;
    }

    public int empty(int shelf) {
        if (!isShelf(shelf)) {
            return BAD;
        }
        int was = shelves[shelf];
        shelves[shelf] = 0;
        return was == 0 ? 0 : 1;
    }

    public int like(int shelf) {
        if (!isShelf(shelf)) {
            return BAD;
        }
        return shelves[shelf] == 0 ? STATE : firstLike(shelf);
    }

    public int unlike() {
        int all = 0;
        for (int shelf = 0; shelf < SHELVES; shelf++) {
            if (shelves[shelf] != 0 && firstLike(shelf) == shelf) {
                all++;
            }
        }
        return all;
    }

    // ---- the image

    public int image() {
        imagePacked = packed();
        System.arraycopy(shelves, 0, imageShelves, 0, SHELVES);
        return turning.size;
    }

    public int back() {
        if (imagePacked == 0) {
            return STATE;
        }
        unpack(imagePacked);
        System.arraycopy(imageShelves, 0, shelves, 0, SHELVES);
        return turning.size;
    }

    public int count(int what) {
        switch (what) {
            case 0:
                return turning.size;
            case 1:
                return turning.family;
            case 2:
                return turning.n;
            case 3:
                return signature.handles;
            case 4:
                return signature.count;
            case 5:
                return shelvesInUse();
            default:
                return BAD;
        }
    }

    // ---- what the calls share

    private void forgetMaps() {
        maps.known = false;
        sorted.known = false;
    }

    /** Puts the k-th map into rows; false: there is no such one. */
    private boolean readsMap(int k) {
        return maps.has(k) && rows.read(maps.codes[k]);
    }

    private static boolean isShelf(int shelf) {
        return shelf >= 0 && shelf < SHELVES;
    }

    private int shelvesInUse() {
        int all = 0;
        for (int shelf = 0; shelf < SHELVES; shelf++) {
            if (shelves[shelf] != 0) {
                all++;
            }
        }
        return all;
    }

    private int firstLike(int shelf) {
        for (int lesser = 0; lesser < shelf; lesser++) {
            if (shelves[lesser] == shelves[shelf]) {
                return lesser;
            }
        }
        return shelf;
    }

    /** The family, n, handles and periods as decimal digits; never 0, because n is not. */
    private int packed() {
        int ahead = turning.family * 100 + turning.n * 10 + signature.handles;
        return ahead * 10000 + signature.periodDigits();
    }

    private void unpack(int packed) {
        int ahead = packed / 10000;
        turning.become(ahead / 100, ahead / 10 % 10);
        signature.take(ahead % 10, packed % 10000);
        forgetMaps();
    }

    /** A group of a family, as a table of products. */
    private static final class Group {
        private static final int RING = 0, MIRRORED = 1, BITS = 2;
        private static final int[] MOST_N = {8, 4, 3, 1};

        private int family;
        private int n;
        private int size;
        private final int[] products = new int[MOST_ELEMENTS * MOST_ELEMENTS];
        private final int[] inverses = new int[MOST_ELEMENTS];
        private final int[] orders = new int[MOST_ELEMENTS];
        private final int[] conjugates = new int[MOST_ELEMENTS * MOST_ELEMENTS];
        private final int[] spans = new int[MOST_SETS];

        Group() {
            become(RING, 1);
        }

        static boolean exists(int family, int n) {
            return family >= 0 && family < MOST_N.length && n >= 1 && n <= MOST_N[family];
        }

        void become(int newFamily, int newN) {
            family = newFamily;
            n = newN;
            size = sizeByFamily();
            for (int a = 0; a < size; a++) {
                for (int b = 0; b < size; b++) {
                    products[a * MOST_ELEMENTS + b] = multiplied(a, b);
                }
            }
            for (int a = 0; a < size; a++) {
                findInverseAndOrder(a);
            }
            findConjugates();
            findSpans();
        }

        private int sizeByFamily() {
            switch (family) {
                case RING:
                    return n;
                case MIRRORED:
                    return 2 * n;
                case BITS:
                    return 1 << n;
                default:
                    return MOST_ELEMENTS;
            }
        }

        private int multiplied(int a, int b) {
            switch (family) {
                case RING:
                    return intoRing(a + b);
                case MIRRORED:
                    return mirrored(a, b);
                case BITS:
                    return a ^ b;
                default:
                    return crossed(a, b);
            }
        }

        /** A number from -n to 2 n - 1, modulo n. */
        private int intoRing(int number) {
            if (number < 0) {
                return number + n;
            }
            return number < n ? number : number - n;
        }

        private int mirrored(int a, int b) {
            int side = a < n ? 0 : 1;
            int otherSide = b < n ? 0 : 1;
            int turn = a - n * side;
            int otherTurn = b - n * otherSide;
            int both = intoRing(side == 0 ? turn + otherTurn : turn - otherTurn);
            return both + n * (side ^ otherSide);
        }

        private int crossed(int a, int b) {
            int axis = a & 3;
            int otherAxis = b & 3;
            int sign = (a >> 2) ^ (b >> 2);
            if (axis == 0 || otherAxis == 0) {
                return axis + otherAxis + 4 * sign;
            }
            if (axis == otherAxis) {
                return 4 * (1 - sign);
            }
            int third = 6 - axis - otherAxis;
            int axisBehind = axis == 3 ? 1 : axis + 1;
            return third + 4 * (otherAxis == axisBehind ? sign : 1 - sign);
        }

        private void findInverseAndOrder(int a) {
            int reached = a;
            int order = 1;
            inverses[a] = 0;
            while (reached != 0 && order < MOST_ELEMENTS) {
                inverses[a] = reached;
                reached = product(reached, a);
                order++;
            }
            orders[a] = order;
        }

        private void findConjugates() {
            for (int a = 0; a < size; a++) {
                for (int b = 0; b < size; b++) {
                    conjugates[a * MOST_ELEMENTS + b] = product(product(inverses[b], a), b);
                }
            }
        }

        /** A set spans what its highest element spans with the span of the others. */
        private void findSpans() {
            spans[0] = 1;
            for (int a = 0; a < size; a++) {
                int highest = 1 << a;
                for (int others = 0; others < highest; others++) {
                    int less = spans[others];
                    spans[others | highest] = (less & highest) == 0 ? grownToSpan(less | highest) : less;
                }
            }
        }

        private int grownToSpan(int set) {
            int all = set;
            // A set that grows has an element more at least.
            for (int round = 0; round < MOST_ELEMENTS; round++) {
                int grown = productOfSets(all, all);
                if (grown == all) {
                    break;
                }
                all = grown;
            }
            return all;
        }

        boolean isElement(int a) {
            return a >= 0 && a < size;
        }

        boolean isSet(int set) {
            return set >= 0 && set <= whole();
        }

        /** The set of all elements. */
        int whole() {
            return (1 << size) - 1;
        }

        int product(int a, int b) {
            return products[a * MOST_ELEMENTS + b];
        }

        int powerOf(int a, int k) {
            int reached = 0;
            for (int i = 0; i < k; i++) {
                reached = product(reached, a);
            }
            return reached;
        }

        int conjugated(int a, int b) {
            return conjugates[a * MOST_ELEMENTS + b];
        }

        int conjugatesOf(int a) {
            int set = 0;
            for (int b = 0; b < size; b++) {
                set |= 1 << conjugated(a, b);
            }
            return set;
        }

        int centreSet() {
            int set = 0;
            for (int a = 0; a < size; a++) {
                if (conjugatesOf(a) == 1 << a) {
                    set |= 1 << a;
                }
            }
            return set;
        }

        int countOfOrder(int order) {
            int all = 0;
            for (int a = 0; a < size; a++) {
                if (orders[a] == order) {
                    all++;
                }
            }
            return all;
        }

        /** All a times b with a in the one set, b in the other. */
        int productOfSets(int set, int other) {
            int all = 0;
            for (int a = 0; a < size; a++) {
                if ((set >> a & 1) == 1) {
                    all |= productWithSet(a, other);
                }
            }
            return all;
        }

        int productWithSet(int a, int set) {
            int all = 0;
            for (int b = 0; b < size; b++) {
                if ((set >> b & 1) == 1) {
                    all |= 1 << products[a * MOST_ELEMENTS + b];
                }
            }
            return all;
        }

        int spanOf(int set) {
            return spans[set];
        }

        boolean isSubgroup(int set) {
            return isSet(set) && spanOf(set) == set;
        }

        boolean isNormal(int subgroup) {
            for (int a = 0; a < size; a++) {
                if ((subgroup >> a & 1) == 1 && (conjugatesOf(a) & ~subgroup) != 0) {
                    return false;
                }
            }
            return true;
        }

        /** How often a subgroup goes into all elements. */
        int indexOf(int subgroup) {
            int held = Integer.bitCount(subgroup);
            return held == 0 ? 0 : size / held;
        }

        /** How many sets (subgroup times a times other subgroup) there are. */
        int setsBetween(int subgroup, int other) {
            int seen = 0;
            int all = 0;
            for (int a = 0; a < size; a++) {
                if ((seen >> a & 1) == 0) {
                    seen |= productOfSets(subgroup, productWithSet(a, other));
                    all++;
                }
            }
            return all;
        }

        /** How many sets (a times subgroup) b leaves as they are. */
        int fixedPlaces(int subgroup, int b) {
            int seen = 0;
            int all = 0;
            for (int a = 0; a < size; a++) {
                int place = productWithSet(a, subgroup);
                if ((seen >> a & 1) == 0 && productWithSet(b, place) == place) {
                    all++;
                }
                seen |= place;
            }
            return all;
        }

        int orderBehind(int subgroup, int x) {
            int reached = x;
            int order = 1;
            while ((subgroup >> reached & 1) == 0 && order < MOST_ELEMENTS) {
                reached = product(reached, x);
                order++;
            }
            return order;
        }
    }

    /** Handles and periods. */
    private static final class Signature {
        private int handles;
        private int count;
        private final int[] periods = new int[MOST_DIGITS];

        /** How many elements a row has. */
        int digits() {
            return 2 * handles + count;
        }

        boolean hasPeriod(int i) {
            return i >= 0 && i < count;
        }

        void add(int m) {
            if (count < MOST_DIGITS) {
                periods[count] = m;
                count++;
            }
        }

        int periodDigits() {
            int all = 0;
            for (int i = 0; i < count; i++) {
                all = all * 10 + periods[i];
            }
            return all;
        }

        /** Becomes what handles and periodDigits tell; no digit of a period is 0. */
        void take(int newHandles, int newDigits) {
            handles = newHandles;
            count = 0;
            for (int scale = 1000; scale >= 1; scale /= 10) {
                int digit = newDigits / scale % 10;
                if (digit != 0) {
                    add(digit);
                }
            }
        }

        int genusOver(int size) {
            int twice = size * (2 * handles - 2) + 2;
            for (int i = 0; i < count; i++) {
                int m = periods[i];
                if (m < LEAST_PERIOD || size % m != 0) {
                    return NONE;
                }
                twice += size - size / m;
            }
            return twice < 0 || twice % 2 != 0 ? NONE : twice / 2;
        }

        /** The first of the rising rows of periods. */
        void start(int newHandles, int newCount) {
            handles = newHandles;
            count = newCount;
            for (int i = 0; i < count && i < MOST_DIGITS; i++) {
                periods[i] = LEAST_PERIOD;
            }
        }

        /** The next of the rising rows of periods; false: this was the last. */
        boolean advance() {
            int at = count - 1;
            while (at >= 0 && periods[at] >= MOST_PERIOD) {
                at--;
            }
            if (at < 0) {
                return false;
            }
            int m = periods[at] + 1;
            for (int i = at; i < count; i++) {
                periods[i] = m;
            }
            return true;
        }
    }

    /** The row that is looked at: elements for the handle and the periods of a signature. */
    private static final class Rows {
        private static final int NO_ROW = 0, LOOSE = 1, MAP = 2;
        private static final int BY_ELEMENT = 10, FIRST_OF_HANDLE = 20, SECOND_OF_HANDLE = 21;

        private final Group turning;
        private final Signature signature;
        private final int[] elements = new int[MOST_DIGITS];

        Rows(Group turning, Signature signature) {
            this.turning = turning;
            this.signature = signature;
        }

        /** Takes the digits of a code; false: they are not just as many elements. */
        boolean read(int code) {
            int rest = code;
            for (int i = signature.digits() - 1; i >= 0; i--) {
                int digit = rest % 10;
                if (!turning.isElement(digit)) {
                    return false;
                }
                elements[i] = digit;
                rest /= 10;
            }
            return rest == 0;
        }

        int code() {
            int all = 0;
            for (int i = 0; i < signature.digits(); i++) {
                all = all * 10 + elements[i];
            }
            return all;
        }

        int elementOfPeriod(int i) {
            return elements[2 * signature.handles + i];
        }

        int kind() {
            if (!hasOrders(signature.count) || productOfFirst(signature.count) != 0) {
                return NO_ROW;
            }
            return isWhole() ? MAP : LOOSE;
        }

        private boolean isWhole() {
            int set = 0;
            for (int i = 0; i < signature.digits(); i++) {
                set |= 1 << elements[i];
            }
            return turning.spanOf(set) == turning.whole();
        }

        /** Whether the elements of so many first periods have these as their orders. */
        private boolean hasOrders(int periods) {
            for (int i = 0; i < periods; i++) {
                if (turning.orders[elementOfPeriod(i)] != signature.periods[i]) {
                    return false;
                }
            }
            return true;
        }

        /** The product of what the handle gives and the elements of so many first periods. */
        private int productOfFirst(int periods) {
            int product = 0;
            if (signature.handles == 1) {
                int there = turning.product(elements[0], elements[1]);
                product = turning.product(there, turning.product(
                        turning.inverses[elements[0]], turning.inverses[elements[1]]));
            }
            for (int i = 0; i < periods; i++) {
                product = turning.product(product, elementOfPeriod(i));
            }
            return product;
        }

        /** How many elements are free: the last of a period follows from the others. */
        private int freeDigits() {
            return signature.count > 0 ? signature.digits() - 1 : signature.digits();
        }

        void startFree() {
            Arrays.fill(elements, 0);
        }

        /** The next free elements, rising; false: these were the last. */
        boolean advanceFree() {
            int at = freeDigits() - 1;
            while (at >= 0 && elements[at] >= turning.size - 1) {
                elements[at] = 0;
                at--;
            }
            if (at < 0) {
                return false;
            }
            elements[at]++;
            return true;
        }

        /** Puts what follows behind the free elements, and tells whether all are a map. */
        boolean completesMap() {
            int last = signature.count - 1;
            if (last < 0) {
                return productOfFirst(0) == 0 && isWhole();
            }
            if (!hasOrders(last)) {
                return false;
            }
            elements[2 * signature.handles + last] = turning.inverses[productOfFirst(last)];
            return hasOrders(signature.count) && isWhole();
        }

        private int movesOfNeighbours() {
            return Math.max(0, signature.count - 1);
        }

        int moveCount() {
            return movesOfNeighbours() + turning.size + 2 * signature.handles;
        }

        /** The number of the i-th move that there is. */
        int moveAt(int i) {
            int behind = i - movesOfNeighbours();
            if (behind < 0) {
                return i + 1;
            }
            return behind < turning.size
                    ? BY_ELEMENT + behind : FIRST_OF_HANDLE + behind - turning.size;
        }

        /** Moves the row; false: there is no such move. */
        boolean moveBy(int move) {
            if (move >= 1 && move < signature.count) {
                moveNeighbours(move);
            } else if (move >= BY_ELEMENT && turning.isElement(move - BY_ELEMENT)) {
                moveByElement(move - BY_ELEMENT);
            } else if (move == FIRST_OF_HANDLE && signature.handles == 1) {
                elements[0] = turning.product(elements[0], elements[1]);
            } else if (move == SECOND_OF_HANDLE && signature.handles == 1) {
                elements[1] = turning.product(elements[1], elements[0]);
            } else {
                return false;
            }
            return true;
        }

        private void moveNeighbours(int i) {
            swapNeighbours(2 * signature.handles + i);
            if (signature.periods[i - 1] != signature.periods[i]) {
                swapNeighbours(2 * signature.handles + i);
            }
        }

        private void swapNeighbours(int at) {
            int first = elements[at - 1];
            elements[at - 1] = elements[at];
            elements[at] = turning.conjugated(first, elements[at]);
        }

        private void moveByElement(int a) {
            for (int i = 0; i < signature.digits(); i++) {
                elements[i] = turning.conjugated(elements[i], a);
            }
        }
    }

    /** The codes of maps, rising; as many of the first as there is room for. */
    private static final class Maps {
        private final Rows rows;
        private final int[] codes;
        private int count;
        private boolean known;

        Maps(Rows rows, int room) {
            this.rows = rows;
            codes = new int[Math.max(0, room)];
        }

        void prepare() {
            if (!known) {
                find();
                known = true;
            }
        }

        void find() {
            count = 0;
            rows.startFree();
            boolean more = true;
            for (int step = 0; more && step < MOST_MAPS && count < codes.length; step++) {
                if (rows.completesMap()) {
                    codes[count] = rows.code();
                    count++;
                }
                more = rows.advanceFree();
            }
        }

        boolean has(int k) {
            return k >= 0 && k < count;
        }

        /** Where a code stands; NONE: it is none of a map. */
        int indexOf(int code) {
            int low = 0;
            int high = count - 1;
            for (int step = 0; low <= high && step < MOST_MAPS; step++) {
                int middle = (low + high) >> 1;
                if (codes[middle] == code) {
                    return middle;
                }
                if (codes[middle] < code) {
                    low = middle + 1;
                } else {
                    high = middle - 1;
                }
            }
            return NONE;
        }
    }

    /** The classes that moves keep, and the distances in them. */
    private static final class Classes {
        private final Maps maps;
        private final Rows rows;
        // Where the map goes by each of the moves that there are.
        private final int[] steps = new int[MOST_MAPS * MOST_MOVES];
        private final int[] numbers = new int[MOST_MAPS];
        private final int[] sizes = new int[MOST_MAPS];
        private final int[] queue = new int[MOST_MAPS];
        private final int[] distances = new int[MOST_MAPS];
        private int moves;
        private int count;
        private boolean known;

        Classes(Maps maps) {
            this.maps = maps;
            rows = maps.rows;
        }

        void prepare() {
            if (known) {
                return;
            }
            maps.prepare();
            moves = Math.min(MOST_MOVES, rows.moveCount());
            for (int index = 0; index < maps.count; index++) {
                findSteps(index);
            }
            sort();
            known = true;
        }

        private void findSteps(int index) {
            for (int i = 0; i < moves; i++) {
                boolean moved = rows.read(maps.codes[index]) && rows.moveBy(rows.moveAt(i));
                steps[index * MOST_MOVES + i] = moved ? maps.indexOf(rows.code()) : NONE;
            }
        }

        /** Maps come rising, so that each class gets its number by its least code. */
        private void sort() {
            count = 0;
            Arrays.fill(distances, NONE);
            for (int index = 0; index < maps.count; index++) {
                if (distances[index] == NONE) {
                    int reached = spreadFrom(index);
                    for (int i = 0; i < reached; i++) {
                        numbers[queue[i]] = count;
                    }
                    sizes[count] = reached;
                    count++;
                }
            }
        }

        /** Queues all maps of the class of one, with their distances; how many they are. */
        private int spreadFrom(int index) {
            int reached = 1;
            queue[0] = index;
            distances[index] = 0;
            for (int at = 0; at < reached && at < MOST_MAPS; at++) {
                int from = queue[at];
                for (int i = 0; i < moves; i++) {
                    int to = steps[from * MOST_MOVES + i];
                    if (to != NONE && distances[to] == NONE && reached < MOST_MAPS) {
                        distances[to] = distances[from] + 1;
                        queue[reached] = to;
                        reached++;
                    }
                }
            }
            return reached;
        }

        int distance(int from, int to) {
            Arrays.fill(distances, NONE);
            spreadFrom(from);
            return distances[to];
        }

        int sizeOf(int c) {
            return c >= 0 && c < count ? sizes[c] : 0;
        }

        /** The first class that no other is greater than; NONE: there is no class. */
        int greatest() {
            int best = NONE;
            for (int c = 0; c < count; c++) {
                if (sizeOf(c) > sizeOf(best)) {
                    best = c;
                }
            }
            return best;
        }

        /** The i-th code of a class; NONE: no such one. */
        int codeOf(int c, int i) {
            int seen = 0;
            for (int index = 0; index < maps.count; index++) {
                if (numbers[index] == c) {
                    if (seen == i) {
                        return maps.codes[index];
                    }
                    seen++;
                }
            }
            return NONE;
        }
    }
}
