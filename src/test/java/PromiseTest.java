/** Answers worked out by hand from the document, promise by promise. */
public final class PromiseTest {
    private static final int NONE = -1, BAD = -2, STATE = -3, FULL = -4;
    private static final int RING = 0, MIRRORED = 1, BITS = 2, CROSSED = 3;
    private static final int LOW = Integer.MIN_VALUE, HIGH = Integer.MAX_VALUE;

    private static int promise = 0;
    private static int wrong = 0;

    private static void is(String call, int got, int want) {
        if (got != want) {
            wrong++;
            System.out.println("promise " + promise + ": " + call + " answered " + got + ", due is " + want);
        }
    }

    private static TurningGroups of(int family, int n, int handles, int... periods) {
        TurningGroups x = new TurningGroups();
        x.group(family, n);
        x.handles(handles);
        for (int m : periods) {
            x.period(m);
        }
        return x;
    }

    private static void list(String call, int[] got, int... want) {
        is("how many of " + call, got.length, want.length);
        for (int i = 0; i < got.length && i < want.length; i++) {
            is(call + " at " + i, got[i], want[i]);
        }
    }

    private static int[] maps(TurningGroups x) {
        int[] all = new int[Math.max(0, x.map(-1))];
        for (int k = 0; k < all.length; k++) {
            all[k] = x.map(k);
        }
        return all;
    }

    private static int[] subgroups(TurningGroups x) {
        int[] all = new int[Math.max(0, x.subgroup(-1))];
        for (int k = 0; k < all.length; k++) {
            all[k] = x.subgroup(k);
        }
        return all;
    }

    private static int[] members(TurningGroups x, int c) {
        int[] all = new int[Math.max(0, x.member(c, -1))];
        for (int i = 0; i < all.length; i++) {
            all[i] = x.member(c, i);
        }
        return all;
    }

    private static int[] found(TurningGroups x, int h, int r, int g) {
        int[] all = new int[Math.max(0, x.found(h, r, g, -1))];
        for (int k = 0; k < all.length; k++) {
            all[k] = x.found(h, r, g, k);
        }
        return all;
    }

    private static int[] counts(TurningGroups x) {
        return new int[] {x.count(0), x.count(1), x.count(2), x.count(3), x.count(4), x.count(5)};
    }

    public static void main(String[] args) {
        theNewObject();
        theGroups();
        theElements();
        theSets();
        theSignature();
        theMaps();
        theSurface();
        theMoves();
        theClasses();
        theDistances();
        theFound();
        theShelves();
        theImage();
        theCounts();
        System.out.println(wrong == 0 ? "all answers are as due" : wrong + " answers are not as due");
        if (wrong != 0) {
            System.exit(1);
        }
    }

    private static void theNewObject() {
        promise = 1;
        TurningGroups x = new TurningGroups();
        list("counts", counts(x), 1, RING, 1, 0, 0, 0);
        is("periodOf(0)", x.periodOf(0), NONE);
        is("drop()", x.drop(), STATE);
        is("back()", x.back(), STATE);
        for (int shelf = 0; shelf < 4; shelf++) {
            is("use", x.use(shelf), STATE);
        }
        list("maps", maps(x), 0);
    }

    private static void theGroups() {
        promise = 2;
        TurningGroups x = new TurningGroups();
        for (int n = 1; n <= 8; n++) {
            is("group(0, " + n + ")", x.group(RING, n), n);
        }
        for (int n = 1; n <= 4; n++) {
            is("group(1, " + n + ")", x.group(MIRRORED, n), 2 * n);
        }
        is("group(2, 1)", x.group(BITS, 1), 2);
        is("group(2, 2)", x.group(BITS, 2), 4);
        is("group(2, 3)", x.group(BITS, 3), 8);
        is("group(3, 1)", x.group(CROSSED, 1), 8);
        x.group(MIRRORED, 3);
        x.period(2);
        int[][] wrongs = {{-1, 1}, {4, 1}, {RING, 0}, {RING, 9}, {RING, -1}, {MIRRORED, 0}, {MIRRORED, 5},
            {BITS, 0}, {BITS, 4}, {CROSSED, 0}, {CROSSED, 2}, {LOW, 1}, {HIGH, 1}, {RING, LOW}, {RING, HIGH}};
        for (int[] pair : wrongs) {
            is("group(" + pair[0] + ", " + pair[1] + ")", x.group(pair[0], pair[1]), BAD);
        }
        list("counts after refusals", counts(x), 6, MIRRORED, 3, 0, 1, 0);
        is("times after refusals", x.times(1, 2), 0);
        x.group(BITS, 2);
        is("periodOf(0) by another group", x.periodOf(0), 2);
    }

    private static void theElements() {
        promise = 3;
        TurningGroups x = of(MIRRORED, 3, 0);
        int[] orders = {1, 3, 3, 2, 2, 2};
        int[] inverses = {0, 2, 1, 3, 4, 5};
        int[] conjugates = {1, 2, 2, 3, 3, 3};
        for (int a = 0; a < 6; a++) {
            is("of(" + a + ", 0)", x.of(a, 0), orders[a]);
            is("of(" + a + ", 1)", x.of(a, 1), inverses[a]);
            is("of(" + a + ", 2)", x.of(a, 2), conjugates[a]);
        }
        refuses(x.of(-1, 0), x.of(6, 0), x.of(0, 3), x.of(0, -1), x.of(LOW, 1), x.of(HIGH, 2), x.of(1, LOW));
        x.group(CROSSED, 1);
        is("of(1, 1) of CROSSED", x.of(1, 1), 5);
        is("of(4, 0) of CROSSED", x.of(4, 0), 2);
        is("of(4, 2) of CROSSED", x.of(4, 2), 1);
        is("of(7, 2) of CROSSED", x.of(7, 2), 2);
        x.group(RING, 8);
        is("of(1, 0) of RING 8", x.of(1, 0), 8);
        is("of(6, 0) of RING 8", x.of(6, 0), 4);
        theProducts();
        promise = 5;
        x.group(RING, 7);
        is("power(3, 5)", x.power(3, 5), 1);
        is("power(3, 0)", x.power(3, 0), 0);
        is("power(3, 1)", x.power(3, 1), 3);
        is("power(3, 99)", x.power(3, 99), 3);
        refuses(x.power(3, 100), x.power(3, -1), x.power(7, 1), x.power(-1, 1), x.power(7, 0), x.power(0, LOW));
        promise = 6;
        x.group(MIRRORED, 3);
        is("conjugate(3, 1)", x.conjugate(3, 1), 4);
        is("conjugate(3, 2)", x.conjugate(3, 2), 5);
        is("conjugate(1, 3)", x.conjugate(1, 3), 2);
        is("conjugate(5, 5)", x.conjugate(5, 5), 5);
        refuses(x.conjugate(6, 0), x.conjugate(0, 6), x.conjugate(-1, 0), x.conjugate(0, -1), x.conjugate(HIGH, LOW));
    }

    private static void theProducts() {
        promise = 4;
        TurningGroups x = of(RING, 5, 0);
        is("times(3, 4) of RING 5", x.times(3, 4), 2);
        is("times(2, 2) of RING 5", x.times(2, 2), 4);
        is("times(2, 3) of RING 5", x.times(2, 3), 0);
        refuses(x.times(5, 0), x.times(0, 5), x.times(-1, 0), x.times(0, -1), x.times(LOW, HIGH));
        x.group(MIRRORED, 3);
        is("times(1, 4) of MIRRORED 3", x.times(1, 4), 5);
        is("times(4, 1) of MIRRORED 3", x.times(4, 1), 3);
        is("times(4, 5) of MIRRORED 3", x.times(4, 5), 2);
        is("times(2, 2) of MIRRORED 3", x.times(2, 2), 1);
        x.group(MIRRORED, 1);
        is("times(1, 1) of MIRRORED 1", x.times(1, 1), 0);
        x.group(BITS, 3);
        is("times(3, 5) of BITS 3", x.times(3, 5), 6);
        is("times(7, 7) of BITS 3", x.times(7, 7), 0);
        x.group(CROSSED, 1);
        int[][] rows = {{1, 2, 3}, {2, 3, 1}, {3, 1, 2}, {2, 1, 7}, {3, 2, 5}, {1, 3, 6}, {1, 1, 4}, {2, 2, 4},
            {3, 3, 4}, {5, 1, 0}, {5, 5, 4}, {4, 4, 0}, {4, 1, 5}, {5, 4, 1}, {5, 2, 7}, {5, 6, 3}, {6, 1, 3}, {0, 7, 7}};
        for (int[] row : rows) {
            is("times(" + row[0] + ", " + row[1] + ") of CROSSED", x.times(row[0], row[1]), row[2]);
        }
        refuses(x.times(8, 0), x.times(0, 8));
    }

    private static void theSets() {
        promise = 7;
        TurningGroups x = of(MIRRORED, 3, 0);
        is("span(0)", x.span(0), 1);
        is("span(1)", x.span(1), 1);
        is("span(2)", x.span(2), 7);
        is("span(8)", x.span(8), 9);
        is("span(24)", x.span(24), 63);
        is("span(63)", x.span(63), 63);
        refuses(x.span(64), x.span(-1), x.span(65), x.span(LOW), x.span(HIGH));
        promise = 8;
        list("subgroups of MIRRORED 3", subgroups(x), 1, 7, 9, 17, 33, 63);
        is("subgroup(6)", x.subgroup(6), NONE);
        is("subgroup(-2)", x.subgroup(-2), NONE);
        is("subgroup(HIGH)", x.subgroup(HIGH), NONE);
        is("subgroup(LOW)", x.subgroup(LOW), NONE);
        promise = 9;
        is("normal(7)", x.normal(7), 1);
        is("normal(9)", x.normal(9), 0);
        is("normal(1)", x.normal(1), 1);
        is("normal(63)", x.normal(63), 1);
        refuses(x.normal(0), x.normal(3), x.normal(6), x.normal(64), x.normal(-1), x.normal(127), x.normal(LOW));
        promise = 8;
        list("subgroups of RING 1", subgroups(new TurningGroups()), 1);
        list("subgroups of BITS 2", subgroups(of(BITS, 2, 0)), 1, 3, 5, 9, 15);
        list("subgroups of RING 8", subgroups(of(RING, 8, 0)), 1, 17, 85, 255);
        list("subgroups of CROSSED", subgroups(of(CROSSED, 1, 0)), 1, 17, 51, 85, 153, 255);
        promise = 10;
        is("centre(0) of MIRRORED 3", x.centre(0), 1);
        is("centre(1) of MIRRORED 3", x.centre(1), 1);
        is("centre(2) of MIRRORED 3", x.centre(2), 3);
        is("centre(3) of MIRRORED 3", x.centre(3), 2);
        is("centre(6) of MIRRORED 3", x.centre(6), 0);
        refuses(x.centre(9), x.centre(-1), x.centre(LOW), x.centre(HIGH));
        x.group(MIRRORED, 4);
        is("centre(0) of MIRRORED 4", x.centre(0), 5);
        x.group(MIRRORED, 2);
        is("centre(0) of MIRRORED 2", x.centre(0), 15);
        x.group(RING, 8);
        is("centre(8) of RING 8", x.centre(8), 4);
    }

    private static void theSignature() {
        promise = 11;
        TurningGroups x = new TurningGroups();
        is("handles(1)", x.handles(1), 0);
        is("handles(1) again", x.handles(1), 1);
        is("handles(0)", x.handles(0), 1);
        refuses(x.handles(2), x.handles(-1), x.handles(LOW), x.handles(HIGH));
        x.period(2);
        x.period(3);
        is("handles(1) with two", x.handles(1), 0);
        is("handles(0) with two", x.handles(0), 1);
        x.period(4);
        is("handles(1) with three", x.handles(1), FULL);
        is("handles(2) with three", x.handles(2), BAD);
        is("handles(0) with three", x.handles(0), 0);
        promise = 12;
        is("period(8)", x.period(8), 4);
        is("period(8), a fifth", x.period(8), FULL);
        is("period(9), a fifth", x.period(9), BAD);
        is("period(1), a fifth", x.period(1), BAD);
        promise = 14;
        int[] periods = {2, 3, 4, 8};
        for (int i = 0; i < 4; i++) {
            is("periodOf(" + i + ")", x.periodOf(i), periods[i]);
        }
        is("periodOf(4)", x.periodOf(4), NONE);
        is("periodOf(-1)", x.periodOf(-1), NONE);
        is("periodOf(HIGH)", x.periodOf(HIGH), NONE);
        promise = 13;
        for (int left = 3; left >= 0; left--) {
            is("drop()", x.drop(), left);
            is("periodOf behind drop()", x.periodOf(left), NONE);
        }
        is("drop() of none", x.drop(), STATE);
        promise = 12;
        refuses(x.period(1), x.period(9), x.period(0), x.period(-2), x.period(LOW), x.period(HIGH));
        is("count(4) after refusals", x.count(4), 0);
        x.handles(1);
        is("period(2)", x.period(2), 1);
        is("period(2)", x.period(2), 2);
        is("period(2), a third with a handle", x.period(2), FULL);
    }

    private static void theMaps() {
        promise = 15;
        list("maps of RING 5 by 5 5", maps(of(RING, 5, 0, 5, 5)), 14, 23, 32, 41);
        list("maps of BITS 2 by 2 2 2", maps(of(BITS, 2, 0, 2, 2, 2)), 123, 132, 213, 231, 312, 321);
        list("maps of MIRRORED 3 by 2 2 3", maps(of(MIRRORED, 3, 0, 2, 2, 3)), 341, 352, 432, 451, 531, 542);
        list("maps of RING 2 by a handle", maps(of(RING, 2, 1)), 1, 10, 11);
        list("maps of RING 2 by nothing", maps(of(RING, 2, 0)));
        list("maps of RING 1 by a handle", maps(of(RING, 1, 1)), 0);
        list("maps of RING 6 by 2 3 6", maps(of(RING, 6, 0, 2, 3, 6)), 321, 345);
        list("maps of RING 4 by 2 2", maps(of(RING, 4, 0, 2, 2)));
        is("maps of MIRRORED 3 by a handle", of(MIRRORED, 3, 1).map(-1), 0);
        // u, v span all of it just if they do not commute: 6 less 3 classes, times 6
        is("maps of MIRRORED 3 by a handle and 3", of(MIRRORED, 3, 1, 3).map(-1), 18);
        TurningGroups x = of(RING, 5, 0, 5, 5);
        is("map(4)", x.map(4), NONE);
        is("map(-2)", x.map(-2), NONE);
        is("map(HIGH)", x.map(HIGH), NONE);
        is("map(LOW)", x.map(LOW), NONE);
        x.group(RING, 3);
        is("map(-1) by another group", x.map(-1), 0);
        x.group(RING, 5);
        x.drop();
        is("map(-1) behind drop()", x.map(-1), 0);
        x.period(5);
        is("map(-1) behind period(5)", x.map(-1), 4);
        x.handles(1);
        is("map(-1) behind handles(1)", x.map(-1), 100);
        is("map(0) behind handles(1)", x.map(0), 14);
        is("map(99) behind handles(1)", x.map(99), 4441);
        x.handles(0);
        is("map(-1) behind handles(0)", x.map(-1), 4);
        promise = 16;
        x = of(BITS, 2, 0, 2, 2, 2);
        is("row(123)", x.row(123), 2);
        is("row(111)", x.row(111), 0);
        is("row(11)", x.row(11), 0);
        is("row(1230)", x.row(1230), 0);
        is("row(1123)", x.row(1123), 0);
        is("row(143)", x.row(143), 0);
        is("row(-123)", x.row(-123), 0);
        is("row(LOW)", x.row(LOW), 0);
        is("row(HIGH)", x.row(HIGH), 0);
        x.drop();
        is("row(11) by 2 2", x.row(11), 1);
        is("row(22) by 2 2", x.row(22), 1);
        is("row(0) by 2 2", x.row(0), 0);
        is("row(12) by 2 2", x.row(12), 0);
        x = of(RING, 2, 1);
        is("row(0) by a handle", x.row(0), 1);
        is("row(1) by a handle", x.row(1), 2);
        is("row(11) by a handle", x.row(11), 2);
        is("row(101) by a handle", x.row(101), 0);
        is("row(-1) by a handle", x.row(-1), 0);
        x = of(RING, 2, 0);
        is("row(0) by nothing", x.row(0), 1);
        is("row(1) by nothing", x.row(1), 0);
        x = of(MIRRORED, 3, 1, 3);
        is("row(342)", x.row(342), 2);
        is("row(341)", x.row(341), 0);
    }

    private static void theSurface() {
        promise = 17;
        is("genus() of RING 1", new TurningGroups().genus(), 0);
        is("genus() of RING 5 by 5 5 5", of(RING, 5, 0, 5, 5, 5).genus(), 2);
        is("genus() of RING 8 by 8 8", of(RING, 8, 0, 8, 8).genus(), 0);
        is("genus() of BITS 3 by a handle, 2 2", of(BITS, 3, 1, 2, 2).genus(), 5);
        is("genus() of CROSSED by a handle, 4", of(CROSSED, 1, 1, 4).genus(), 4);
        is("genus() of RING 8 by a handle, 8", of(RING, 8, 1, 8).genus(), NONE);
        is("genus() of RING 5 by 2", of(RING, 5, 0, 2).genus(), NONE);
        is("genus() of RING 4 by 3 3", of(RING, 4, 0, 3, 3).genus(), NONE);
        is("genus() of RING 4 by 8 2 2", of(RING, 4, 0, 8, 2, 2).genus(), NONE);
        is("genus() of RING 2 by 2 2 2", of(RING, 2, 0, 2, 2, 2).genus(), NONE);
        is("genus() of RING 2 by nothing", of(RING, 2, 0).genus(), NONE);
        is("genus() of RING 2 by 2", of(RING, 2, 0, 2).genus(), NONE);
        is("genus() of RING 1 by 2", of(RING, 1, 0, 2).genus(), NONE);
        is("genus() without maps", of(CROSSED, 1, 0, 4, 4, 2).genus(), 1);
        promise = 18;
        TurningGroups x = of(RING, 6, 0, 2, 3, 6);
        int[] fixed = {1, 3, 4, 3, 1};
        for (int b = 1; b < 6; b++) {
            is("fixed(0, " + b + ")", x.fixed(0, b), fixed[b - 1]);
            is("fixed(1, " + b + ")", x.fixed(1, b), fixed[b - 1]);
        }
        refuses(x.fixed(0, 0), x.fixed(0, 6), x.fixed(-1, 1), x.fixed(2, 1), x.fixed(0, LOW), x.fixed(LOW, 1), x.fixed(0, HIGH));
        TurningGroups y = of(MIRRORED, 3, 0, 2, 2, 3);
        int[] fixedByMirrored = {2, 2, 2, 2, 2};
        for (int b = 1; b < 6; b++) {
            is("fixed(0, " + b + ") of MIRRORED", y.fixed(0, b), fixedByMirrored[b - 1]);
        }
        promise = 19;
        is("left(0, 1)", x.left(0, 1), 1);
        is("left(0, 9)", x.left(0, 9), 0);
        is("left(0, 21)", x.left(0, 21), 0);
        is("left(1, 63)", x.left(1, 63), 0);
        refuses(x.left(2, 1), x.left(-1, 1), x.left(0, 3), x.left(0, 0), x.left(0, 64), x.left(0, -1), x.left(LOW, LOW));
        x = of(BITS, 2, 1, 2, 2);
        is("map(0)", x.map(0), 122);
        is("left(0, 1) by a handle", x.left(0, 1), 3);
        is("left(0, 5) by a handle", x.left(0, 5), 1);
        is("left(0, 3) by a handle", x.left(0, 3), 2);
        is("left(0, 9) by a handle", x.left(0, 9), 2);
        is("left(0, 0) by a handle", x.left(0, 0), BAD);
        is("left(0, 15) by a handle", x.left(0, 15), 1);
        promise = 20;
        x = of(RING, 8, 0, 8, 8);
        is("behind(0, 1, 0)", x.behind(0, 1, 0), 8);
        is("behind(0, 17, 0)", x.behind(0, 17, 0), 4);
        is("behind(1, 85, 1)", x.behind(1, 85, 1), 2);
        is("behind(0, 255, 1)", x.behind(0, 255, 1), 1);
        refuses(x.behind(4, 1, 0), x.behind(-1, 1, 0), x.behind(0, 3, 0), x.behind(0, 256, 0), x.behind(0, 1, 2), x.behind(0, 1, -1), x.behind(HIGH, LOW, HIGH));
        is("behind(0, 7, 0) of MIRRORED", y.behind(0, 7, 0), 2);
        is("behind(0, 7, 2) of MIRRORED", y.behind(0, 7, 2), 1);
        is("behind(0, 9, 0) of MIRRORED", y.behind(0, 9, 0), STATE);
        refuses(y.behind(0, 9, 3), y.behind(6, 9, 0), y.behind(0, 5, 0), y.behind(0, 9, -1));
    }

    private static void theMoves() {
        promise = 21;
        TurningGroups x = of(MIRRORED, 3, 0, 2, 2, 3);
        is("move(341, 1)", x.move(341, 1), 451);
        is("move(341, 2)", x.move(341, 2), 352);
        is("move(341, 13)", x.move(341, 13), 352);
        refuses(x.move(341, 3), x.move(341, 0), x.move(341, -1), x.move(341, 9), x.move(341, 16), x.move(341, 17),
            x.move(341, 20), x.move(341, 21), x.move(340, 1), x.move(-341, 1), x.move(341, LOW), x.move(341, HIGH), x.move(HIGH, 1));
        x = of(MIRRORED, 3, 1, 3);
        is("move(342, 20)", x.move(342, 20), 242);
        is("move(342, 21)", x.move(342, 21), 312);
        is("move(342, 10)", x.move(342, 10), 342);
        is("move(342, 11)", x.move(342, 11), 452);
        is("move(342, 13)", x.move(342, 13), 351);
        refuses(x.move(342, 1), x.move(342, 16), x.move(342, 19), x.move(342, 22), x.move(341, 20));
        x = of(MIRRORED, 3, 0, 2, 2);
        is("move(33, 11), not WHOLE", x.move(33, 11), 44);
        is("move(33, 1), not WHOLE", x.move(33, 1), 33);
        x = of(RING, 4, 1, 2, 2);
        is("move(122, 1) by a handle", x.move(122, 1), 122);
        is("move(122, 2) by a handle", x.move(122, 2), BAD);
        x = of(MIRRORED, 4, 1, 2, 2);
        // u and v stay as they are, and 4 by 4 is 4
        is("move(2244, 1) of MIRRORED 4", x.move(2244, 1), 2244);
        is("move(1145, 1), no ROW", x.move(1145, 1), BAD);
        is("move(1445, 1), no ROW", x.move(1445, 1), BAD);
        // u 1, v 4 give 2, and 4 TIMES 6 is 2 too; these two commute, so that they change places
        is("row(1446)", x.row(1446), 2);
        is("move(1446, 1)", x.move(1446, 1), 1464);
        is("move(0, 10) of RING 1", new TurningGroups().move(0, 10), 0);
        is("move(0, 11) of RING 1", new TurningGroups().move(0, 11), BAD);
        is("move(0, 17) of RING 8", of(RING, 8, 0).move(0, 17), 0);
        is("move(0, 18) of RING 8", of(RING, 8, 0).move(0, 18), BAD);
        is("move(0, 1) of RING 1", new TurningGroups().move(0, 1), BAD);
        theUnlikeMoves();
    }

    private static void theUnlikeMoves() {
        TurningGroups x = of(CROSSED, 1, 0, 4, 4, 4);
        is("move(127, 1) of CROSSED", x.move(127, 1), 257);
        x = of(MIRRORED, 4, 0, 2, 4, 2);
        // 4 and 1: twice is 6 and 3
        is("row(415)", x.row(415), 0);
        is("row(417)", x.row(417), 2);
        is("move(417, 1)", x.move(417, 1), 637);
        x = of(RING, 6, 0, 2, 3, 6);
        is("move(321, 1) of RING 6", x.move(321, 1), 321);
        is("move(321, 2) of RING 6", x.move(321, 2), 321);
        x = of(RING, 5, 0, 5, 5);
        is("move(14, 1) of RING 5", x.move(14, 1), 41);
    }

    private static void theClasses() {
        promise = 22;
        TurningGroups x = of(RING, 7, 0, 7, 7, 7);
        is("classes(0)", x.classes(0), 8);
        is("classes(1)", x.classes(1), 6);
        is("classes(2)", x.classes(2), 1);
        refuses(x.classes(3), x.classes(-1), x.classes(LOW), x.classes(HIGH));
        promise = 24;
        list("class 0", members(x, 0), 115, 151, 511);
        list("class 1", members(x, 1), 124, 142, 214, 241, 412, 421);
        promise = 22;
        x.group(RING, 2);
        is("classes(0) of none", x.classes(0), 0);
        is("classes(1) of none", x.classes(1), 0);
        is("classes(2) of none", x.classes(2), NONE);
        promise = 24;
        refuses(x.member(0, 0), x.member(0, -1));
        promise = 22;
        x = of(RING, 5, 0, 5, 5);
        is("classes(0) of RING 5", x.classes(0), 2);
        is("classes(1) of RING 5", x.classes(1), 2);
        is("classes(2) of RING 5", x.classes(2), 0);
        promise = 23;
        is("classOf(14)", x.classOf(14), 0);
        is("classOf(23)", x.classOf(23), 1);
        is("classOf(32)", x.classOf(32), 1);
        is("classOf(41)", x.classOf(41), 0);
        is("classOf(0)", x.classOf(0), NONE);
        is("classOf(15)", x.classOf(15), NONE);
        is("classOf(-14)", x.classOf(-14), NONE);
        is("classOf(HIGH)", x.classOf(HIGH), NONE);
        is("classOf(LOW)", x.classOf(LOW), NONE);
        is("classOf of a ROW that is not WHOLE", of(BITS, 2, 0, 2, 2).classOf(11), NONE);
        promise = 24;
        list("class 1 of RING 5", members(x, 1), 23, 32);
        is("member(1, 2)", x.member(1, 2), NONE);
        is("member(1, -2)", x.member(1, -2), NONE);
        is("member(1, HIGH)", x.member(1, HIGH), NONE);
        refuses(x.member(2, 0), x.member(-1, 0), x.member(2, -1), x.member(LOW, 0), x.member(HIGH, 9));
        promise = 22;
        // nothing conjugates here: the moves of the handle alone join all six pairs that span
        TurningGroups y = of(BITS, 2, 1);
        is("classes(0) of BITS 2 by a handle", y.classes(0), 1);
        is("classes(1) of BITS 2 by a handle", y.classes(1), 6);
        x.drop();
        is("classes(0) behind drop()", x.classes(0), 0);
    }

    private static void theDistances() {
        promise = 25;
        TurningGroups x = of(RING, 5, 0, 5, 5);
        is("apart(14, 14)", x.apart(14, 14), 0);
        is("apart(14, 41)", x.apart(14, 41), 1);
        is("apart(14, 23)", x.apart(14, 23), NONE);
        refuses(x.apart(14, 15), x.apart(15, 14), x.apart(0, 0), x.apart(LOW, 14), x.apart(14, HIGH), x.apart(-14, -14));
        x = of(RING, 3, 1);
        is("apart(1, 11)", x.apart(1, 11), 1);
        is("apart(11, 1)", x.apart(11, 1), 2);
        x = of(MIRRORED, 3, 0, 2, 2, 3);
        is("apart(341, 542) by MOVE 14", x.apart(341, 542), 1);
        is("apart(341, 451) by MOVE 1", x.apart(341, 451), 1);
        is("apart(341, 352)", x.apart(341, 352), 1);
        x = of(MIRRORED, 4, 1, 2, 2);
        is("apart(1446, 1746) by MOVE 21", x.apart(1446, 1746), 1);
        is("apart(1446, 1464) by MOVE 1", x.apart(1446, 1464), 1);
        is("apart of a ROW that is not WHOLE", of(BITS, 2, 0, 2, 2).apart(11, 11), BAD);
    }

    private static void theFound() {
        promise = 26;
        TurningGroups x = of(RING, 6, 0, 5);
        list("found(0, 4, 3)", found(x, 0, 4, 3), 2266, 2336);
        list("found(0, 3, 1)", found(x, 0, 3, 1), 236);
        list("found(0, 3, 2)", found(x, 0, 3, 2), 366);
        list("found(0, 2, 0)", found(x, 0, 2, 0), 66);
        list("found(0, 1, 0)", found(x, 0, 1, 0));
        list("found(0, 0, 0)", found(x, 0, 0, 0));
        list("found(1, 0, 1)", found(x, 1, 0, 1), 0);
        list("found(1, 0, 0)", found(x, 1, 0, 0));
        list("found(1, 2, 4)", found(x, 1, 2, 4), 22);
        is("found(0, 4, 3, 2)", x.found(0, 4, 3, 2), NONE);
        is("found(0, 4, 3, -2)", x.found(0, 4, 3, -2), NONE);
        is("found(0, 4, 3, HIGH)", x.found(0, 4, 3, HIGH), NONE);
        is("found(0, 4, 3, LOW)", x.found(0, 4, 3, LOW), NONE);
        is("found(1, 0, 1, 1)", x.found(1, 0, 1, 1), NONE);
        refuses(x.found(-1, 0, 0, 0), x.found(2, 0, 0, 0), x.found(0, 5, 0, 0), x.found(0, -1, 0, 0), x.found(1, 3, 0, 0),
            x.found(0, 0, -1, 0), x.found(0, 0, 10, 0), x.found(LOW, 0, 0, 0), x.found(0, HIGH, 0, 0), x.found(0, LOW, 0, -1),
            x.found(1, HIGH, 0, -1), x.found(0, 0, HIGH, -1));
        is("count(4) behind found", x.count(4), 1);
        is("periodOf(0) behind found", x.periodOf(0), 5);
        is("count(3) behind found", x.count(3), 0);
        x = of(MIRRORED, 3, 0, 2, 2, 3);
        list("found(1, 1, 3) of MIRRORED 3", found(x, 1, 1, 3), 3);
        list("found(0, 3, 0) of MIRRORED 3", found(x, 0, 3, 0), 223);
        is("map(0) behind found", x.map(0), 341);
        is("classes(1) behind found", x.classes(1), 6);
        list("found(0, 0, 0) of RING 1", found(new TurningGroups(), 0, 0, 0), 0);
        // 2 g less 2 is 7 of each 8, less 16 without a handle
        is("found(0, 4, 9, -1) of RING 8", of(RING, 8, 0).found(0, 4, 9, -1), 0);
        is("found(1, 2, 9, 0) of RING 8", of(RING, 8, 0).found(1, 2, 9, 0), NONE);
        list("found(0, 4, 7) of RING 8", found(of(RING, 8, 0), 0, 4, 7), 8888);
        list("found(1, 2, 8) of RING 8", found(of(RING, 8, 0), 1, 2, 8), 88);
    }

    private static void theShelves() {
        promise = 27;
        TurningGroups x = of(RING, 4, 1, 2, 2);
        is("keep(2)", x.keep(2), 1);
        is("keep(2) again", x.keep(2), 1);
        is("keep(0)", x.keep(0), 2);
        refuses(x.keep(-1), x.keep(4), x.keep(LOW), x.keep(HIGH));
        promise = 28;
        x.group(MIRRORED, 3);
        x.drop();
        x.drop();
        x.handles(0);
        x.period(3);
        x.keep(1);
        is("use(2)", x.use(2), 4);
        list("counts behind use(2)", counts(x), 4, RING, 4, 1, 2, 3);
        is("map(-1) behind use(2)", x.map(-1), 12);
        is("use(1)", x.use(1), 6);
        list("counts behind use(1)", counts(x), 6, MIRRORED, 3, 0, 1, 3);
        is("periodOf(0) behind use(1)", x.periodOf(0), 3);
        is("times behind use(1)", x.times(4, 5), 2);
        is("map(-1) behind use(1)", x.map(-1), 0);
        is("classes(0) behind use(1)", x.classes(0), 0);
        is("use(3)", x.use(3), STATE);
        refuses(x.use(4), x.use(-1), x.use(LOW), x.use(HIGH));
        list("counts behind refusals", counts(x), 6, MIRRORED, 3, 0, 1, 3);
        promise = 30;
        is("like(0)", x.like(0), 0);
        is("like(1)", x.like(1), 1);
        is("like(2)", x.like(2), 0);
        is("like(3)", x.like(3), STATE);
        refuses(x.like(4), x.like(-1), x.like(LOW), x.like(HIGH));
        promise = 31;
        is("unlike()", x.unlike(), 2);
        promise = 29;
        is("empty(0)", x.empty(0), 1);
        is("empty(0) again", x.empty(0), 0);
        is("count(5)", x.count(5), 2);
        is("use(0)", x.use(0), STATE);
        is("like(2) behind empty(0)", x.like(2), 2);
        refuses(x.empty(4), x.empty(-1), x.empty(LOW), x.empty(HIGH));
        theLikes();
    }

    private static void theLikes() {
        promise = 31;
        TurningGroups x = of(RING, 2, 0, 2, 4);
        is("unlike() of none", x.unlike(), 0);
        x.keep(0);
        x.drop();
        x.drop();
        x.period(4);
        x.period(2);
        x.keep(1);
        promise = 30;
        is("like(1), periods in another order", x.like(1), 1);
        x.group(BITS, 1);
        x.keep(2);
        is("like(2), another family", x.like(2), 2);
        x.handles(1);
        x.keep(3);
        is("like(3), other handles", x.like(3), 3);
        promise = 31;
        is("unlike() of four", x.unlike(), 4);
        x.use(1);
        x.group(RING, 3);
        x.keep(3);
        promise = 30;
        is("like(3), another n", x.like(3), 3);
        x.use(1);
        x.keep(3);
        is("like(3)", x.like(3), 1);
        x.use(2);
        x.drop();
        x.keep(3);
        is("like(3), fewer periods", x.like(3), 3);
        promise = 31;
        x.keep(2);
        x.keep(1);
        is("unlike() of three that are like", x.unlike(), 2);
    }

    private static void theImage() {
        promise = 33;
        TurningGroups x = of(MIRRORED, 4, 0, 2, 4, 2);
        is("back() of none", x.back(), STATE);
        x.keep(3);
        promise = 32;
        is("image()", x.image(), 8);
        x.group(RING, 3);
        x.handles(0);
        x.drop();
        x.keep(0);
        x.empty(3);
        promise = 33;
        for (int again = 0; again < 2; again++) {
            is("map(-1) ahead of back()", x.map(-1), 0);
            is("back()", x.back(), 8);
            list("counts behind back()", counts(x), 8, MIRRORED, 4, 0, 3, 1);
            is("periodOf(1) behind back()", x.periodOf(1), 4);
            is("use(0) behind back()", x.use(0), STATE);
            is("use(3) behind back()", x.use(3), 8);
            is("times behind back()", x.times(5, 4), 1);
            is("row(417) behind back()", x.row(417), 2);
            is("classOf(417) behind back()", x.classOf(417) >= 0 ? 1 : 0, 1);
            x.drop();
            x.period(8);
            x.keep(1);
            x.keep(3);
        }
        promise = 32;
        x.group(RING, 7);
        is("a later image()", x.image(), 7);
        x.group(RING, 2);
        is("back() to the later one", x.back(), 7);
        is("count(5) behind it", x.count(5), 2);
        x = of(RING, 1, 0);
        is("image() of a new object", x.image(), 1);
        x.group(BITS, 3);
        is("back() to it", x.back(), 1);
    }

    private static void theCounts() {
        promise = 34;
        TurningGroups x = of(BITS, 3, 1, 7);
        x.keep(1);
        x.keep(2);
        list("counts", counts(x), 8, BITS, 3, 1, 1, 2);
        refuses(x.count(6), x.count(-1), x.count(LOW), x.count(HIGH));
        list("counts of CROSSED", counts(of(CROSSED, 1, 0, 2, 2, 2, 2)), 8, CROSSED, 1, 0, 4, 0);
    }

    private static void refuses(int... answers) {
        for (int i = 0; i < answers.length; i++) {
            is("refusal " + i, answers[i], BAD);
        }
    }
}
