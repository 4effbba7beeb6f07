import java.util.List;

/**
 * Runs of calls on the program and on the model beside it, every answer compared: all groups with
 * many signatures, then long mixed runs whose arguments come from a fixed row of numbers.
 */
public final class ModelTest {
    private static final int CALLS = 512;
    private static final int[][] GROUPS = {{0, 1}, {0, 2}, {0, 3}, {0, 4}, {0, 5}, {0, 6}, {0, 7}, {0, 8},
        {1, 1}, {1, 2}, {1, 3}, {1, 4}, {2, 1}, {2, 2}, {2, 3}, {3, 1}};
    private static final int[] ODD = {Integer.MIN_VALUE, Integer.MAX_VALUE, -100, -11, -3, -2, -1, 9, 22, 99, 100,
        255, 256, 257, 511, 777, 888, 999, 4096, 7777, 10000, 12345};

    private static int wrong = 0;
    private static long seed = 20261118L;

    private TurningGroups program = new TurningGroups();
    private ReferenceModel model = new ReferenceModel();
    private int calls = 0;

    public static void main(String[] args) {
        for (int[] group : GROUPS) {
            allSignatures(group);
        }
        for (int run = 0; run < 400; run++) {
            new ModelTest().mixedRun();
        }
        System.out.println(wrong == 0 ? "all answers are as due" : wrong + " answers are not as due");
        if (wrong != 0) {
            System.exit(1);
        }
    }

    private static int below(int end) {
        seed = seed * 6364136223846793005L + 1442695040888963407L;
        return (int) ((seed >>> 33) % end);
    }

    private void same(String call, int got, int want) {
        calls++;
        if (got != want) {
            wrong++;
            if (wrong <= 50) {
                System.out.println(call + " answered " + got + ", the model says " + want + " with "
                    + model.count(1) + " " + model.count(2) + ", handles " + model.count(3) + ", periods "
                    + model.periodOf(0) + " " + model.periodOf(1) + " " + model.periodOf(2) + " " + model.periodOf(3));
            }
        }
    }

    /** Signatures that rise or fall are laid on the group and looked at, and all whose periods divide its size. */
    private static void allSignatures(int[] group) {
        ReferenceModel model = new ReferenceModel();
        int size = model.group(group[0], group[1]);
        for (int h = 0; h <= 1; h++) {
            for (int code = 0; code < (h == 0 ? 10000 : 100); code++) {
                String digits = code == 0 ? "" : String.valueOf(code);
                String reverse = new StringBuilder(digits).reverse().toString();
                if (isRising(digits) || isRising(reverse) || divide(digits, size)) {
                    new ModelTest().oneSignature(group, h, digits);
                }
            }
        }
    }

    private static boolean isRising(String digits) {
        char least = '2';
        for (char digit : digits.toCharArray()) {
            if (digit < least || digit > '8') {
                return false;
            }
            least = digit;
        }
        return true;
    }

    private static boolean divide(String digits, int size) {
        for (char digit : digits.toCharArray()) {
            if (digit < '2' || digit > '8' || size % (digit - '0') != 0) {
                return false;
            }
        }
        return true;
    }

    private void oneSignature(int[] group, int h, String digits) {
        same("group", program.group(group[0], group[1]), model.group(group[0], group[1]));
        same("handles", program.handles(h), model.handles(h));
        for (char m : digits.toCharArray()) {
            same("period", program.period(m - '0'), model.period(m - '0'));
        }
        same("genus", program.genus(), model.genus());
        same("map(-1)", program.map(-1), model.map(-1));
        for (int what = -1; what <= 3; what++) {
            same("classes(" + what + ")", program.classes(what), model.classes(what));
        }
        int maps = model.map(-1);
        for (int i = 0; i < 20 && maps > 0; i++) {
            lookAtMap(below(maps));
        }
        if (model.row(0) == 1 || below(8) == 0) {
            for (int i = 0; i < 20; i++) {
                mixedCall(13 + below(3));
            }
        }
    }

    private void lookAtMap(int k) {
        int code = model.map(k);
        int other = model.map(below(model.map(-1)));
        same("map(" + k + ")", program.map(k), code);
        same("row(" + code + ")", program.row(code), model.row(code));
        same("classOf(" + code + ")", program.classOf(code), model.classOf(code));
        same("apart(" + code + ", " + other + ")", program.apart(code, other), model.apart(code, other));
        int c = model.classOf(code);
        int i = below(model.member(c, -1) + 1) - 1;
        same("member(" + c + ", " + i + ")", program.member(c, i), model.member(c, i));
        int b = below(model.count(0) + 1);
        same("fixed(" + k + ", " + b + ")", program.fixed(k, b), model.fixed(k, b));
        int h = model.subgroup(below(model.subgroup(-1)));
        same("left(" + k + ", " + h + ")", program.left(k, h), model.left(k, h));
        int at = below(5);
        same("behind(" + k + ", " + h + ", " + at + ")", program.behind(k, h, at), model.behind(k, h, at));
        int move = below(23);
        same("move(" + code + ", " + move + ")", program.move(code, move), model.move(code, move));
    }

    private void mixedRun() {
        int[] group = GROUPS[below(GROUPS.length)];
        same("group", program.group(group[0], group[1]), model.group(group[0], group[1]));
        int changing = 2 + below(20);
        while (calls < CALLS) {
            mixedCall(below(changing) == 0 ? below(13) : 13 + below(22));
        }
    }

    private int some(int end) {
        return below(12) == 0 ? ODD[below(ODD.length)] : below(end + 2) - 1;
    }

    private int someCode() {
        List<Integer> maps = model.maps();
        if (!maps.isEmpty() && below(5) != 0) {
            return maps.get(below(maps.size()));
        }
        int size = model.count(0);
        int length = 2 * model.count(3) + model.count(4);
        int code = 0;
        for (int i = 0; i < length; i++) {
            code = code * 10 + below(size);
        }
        return below(3) == 0 ? some(10000) : code;
    }

    private int someSet() {
        int subgroups = model.subgroup(-1);
        return below(3) == 0 ? some(1 << model.count(0)) : model.subgroup(below(subgroups));
    }

    private int somePeriod() {
        int a = below(model.count(0));
        return below(4) == 0 ? some(9) : model.of(a, 0);
    }

    private void mixedCall(int kind) {
        int a = some(8);
        int b = some(8);
        int shelf = some(4);
        int k = some(Math.max(4, model.map(-1)));
        int code = someCode();
        int set = someSet();
        switch (kind) {
            case 0: {
                int[] group = GROUPS[below(GROUPS.length)];
                int family = below(4) == 0 ? some(4) : group[0];
                int n = below(4) == 0 ? some(8) : group[1];
                same("group(" + family + ", " + n + ")", program.group(family, n), model.group(family, n));
                break;
            }
            case 1: case 2: {
                int h = some(2);
                same("handles(" + h + ")", program.handles(h), model.handles(h));
                break;
            }
            case 3: case 4: case 5: case 6: {
                int m = somePeriod();
                same("period(" + m + ")", program.period(m), model.period(m));
                break;
            }
            case 7: case 8: same("drop()", program.drop(), model.drop()); break;
            case 9: same("keep(" + shelf + ")", program.keep(shelf), model.keep(shelf)); break;
            case 10: same("use(" + shelf + ")", program.use(shelf), model.use(shelf)); break;
            case 11: same("empty(" + shelf + ")", program.empty(shelf), model.empty(shelf)); break;
            case 12:
                if (below(2) == 0) {
                    same("image()", program.image(), model.image());
                } else {
                    same("back()", program.back(), model.back());
                }
                break;
            default: askingCall(kind, a, b, k, code, set, shelf);
        }
    }

    private void askingCall(int kind, int a, int b, int k, int code, int set, int shelf) {
        switch (kind) {
            case 13: same("row(" + code + ")", program.row(code), model.row(code)); break;
            case 14: {
                int move = some(23);
                same("move(" + code + ", " + move + ")", program.move(code, move), model.move(code, move));
                break;
            }
            case 15: {
                int other = someCode();
                same("apart(" + code + ", " + other + ")", program.apart(code, other), model.apart(code, other));
                break;
            }
            case 16: {
                int what = some(3);
                same("of(" + a + ", " + what + ")", program.of(a, what), model.of(a, what));
                break;
            }
            case 17: same("times(" + a + ", " + b + ")", program.times(a, b), model.times(a, b)); break;
            case 18: {
                int times = some(100);
                same("power(" + a + ", " + times + ")", program.power(a, times), model.power(a, times));
                break;
            }
            case 19: same("conjugate(" + a + ", " + b + ")", program.conjugate(a, b), model.conjugate(a, b)); break;
            case 20: {
                int any = some(1 << model.count(0));
                same("span(" + any + ")", program.span(any), model.span(any));
                break;
            }
            case 21: {
                int i = some(17);
                same("subgroup(" + i + ")", program.subgroup(i), model.subgroup(i));
                break;
            }
            case 22: same("normal(" + set + ")", program.normal(set), model.normal(set)); break;
            case 23: {
                int what = some(9);
                same("centre(" + what + ")", program.centre(what), model.centre(what));
                break;
            }
            default: askingMore(kind, b, k, code, set, shelf);
        }
    }

    private void askingMore(int kind, int b, int k, int code, int set, int shelf) {
        switch (kind) {
            case 24: {
                int i = some(4);
                same("periodOf(" + i + ")", program.periodOf(i), model.periodOf(i));
                break;
            }
            case 25: same("map(" + k + ")", program.map(k), model.map(k)); break;
            case 26: same("genus()", program.genus(), model.genus()); break;
            case 27: same("fixed(" + k + ", " + b + ")", program.fixed(k, b), model.fixed(k, b)); break;
            case 28: same("left(" + k + ", " + set + ")", program.left(k, set), model.left(k, set)); break;
            case 29: {
                int i = some(4);
                same("behind(" + k + ", " + set + ", " + i + ")", program.behind(k, set, i), model.behind(k, set, i));
                break;
            }
            case 30: {
                int what = some(3);
                same("classes(" + what + ")", program.classes(what), model.classes(what));
                break;
            }
            case 31: same("classOf(" + code + ")", program.classOf(code), model.classOf(code)); break;
            case 32: {
                int c = some(Math.max(2, model.classes(0)));
                int i = some(20);
                same("member(" + c + ", " + i + ")", program.member(c, i), model.member(c, i));
                break;
            }
            case 33: {
                int h = some(2);
                int r = some(5);
                int g = some(10);
                int i = some(3);
                same("found(" + h + ", " + r + ", " + g + ", " + i + ")", program.found(h, r, g, i), model.found(h, r, g, i));
                break;
            }
            default: {
                int what = some(6);
                same("like(" + shelf + ")", program.like(shelf), model.like(shelf));
                same("unlike()", program.unlike(), model.unlike());
                same("count(" + what + ")", program.count(what), model.count(what));
            }
        }
    }
}
