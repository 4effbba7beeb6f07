import java.util.ArrayList;
import java.util.Arrays;
import java.util.HashMap;
import java.util.List;
import java.util.Map;
import java.util.TreeMap;
import java.util.TreeSet;

/**
 * The document said again in the plainest way, by sets and by trying every code: nothing is shared
 * with the program, and nothing is remembered but THE GROUP, THE SIGNATURE, SHELVES, THE IMAGE.
 * What follows from a group with its signature is kept in a table, for speed alone.
 */
final class ReferenceModel {
    static final int NONE = -1, BAD = -2, STATE = -3, FULL = -4;
    private static final Map<List<Integer>, ReferenceModel> KNOWN = new HashMap<>();
    private static final Map<List<Integer>, List<Integer>> KNOWN_SUBGROUPS = new HashMap<>();

    private int family = 0;
    private int n = 1;
    private int handles = 0;
    private List<Integer> periods = new ArrayList<>();
    private Map<Integer, List<Integer>> shelves = new TreeMap<>();
    private List<Integer> imageState = null;
    private Map<Integer, List<Integer>> imageShelves = null;
    private List<Integer> mapsByNow = null;
    private List<TreeSet<Integer>> classesByNow = null;

    // ---- the group

    int size() {
        return family == 0 ? n : family == 1 ? 2 * n : family == 2 ? (int) Math.round(Math.pow(2, n)) : 8;
    }

    int product(int a, int b) {
        if (family == 0) {
            return (a + b) % n;
        }
        if (family == 1) {
            int turn = a / n == 0 ? a % n + b % n : a % n - b % n;
            return Math.floorMod(turn, n) + n * (a / n == b / n ? 0 : 1);
        }
        if (family == 2) {
            int all = 0;
            for (int bit = 1; bit < 8; bit *= 2) {
                all += a / bit % 2 != b / bit % 2 ? bit : 0;
            }
            return all;
        }
        int odd = a / 4 + b / 4;
        int axis = a % 4;
        int other = b % 4;
        if (axis == 0) {
            return other + 4 * (odd % 2);
        }
        if (other == 0) {
            return axis + 4 * (odd % 2);
        }
        if (axis == other) {
            return 4 * ((odd + 1) % 2);
        }
        boolean follows = axis == 1 && other == 2 || axis == 2 && other == 3 || axis == 3 && other == 1;
        int third = axis != 1 && other != 1 ? 1 : axis != 2 && other != 2 ? 2 : 3;
        return third + 4 * ((follows ? odd : odd + 1) % 2);
    }

    int inverse(int a) {
        for (int b = 0; b < size(); b++) {
            if (product(a, b) == 0) {
                return b;
            }
        }
        throw new IllegalStateException("no inverse");
    }

    int order(int a) {
        int k = 1;
        while (multiple(a, k) != 0) {
            k++;
        }
        return k;
    }

    private int multiple(int a, int k) {
        int all = 0;
        for (int i = 0; i < k; i++) {
            all = product(all, a);
        }
        return all;
    }

    private int byElement(int a, int b) {
        return product(product(inverse(b), a), b);
    }

    private boolean element(int a) {
        return 0 <= a && a < size();
    }

    private TreeSet<Integer> elements(int bits) {
        TreeSet<Integer> all = new TreeSet<>();
        for (int a = 0; a < 31; a++) {
            if ((bits & 1 << a) != 0) {
                all.add(a);
            }
        }
        return all;
    }

    private int bits(Iterable<Integer> all) {
        int bits = 0;
        for (int a : all) {
            bits |= 1 << a;
        }
        return bits;
    }

    private boolean closed(int bits) {
        TreeSet<Integer> all = elements(bits);
        if (bits < 0 || !all.contains(0) || all.last() >= size()) {
            return false;
        }
        for (int a : all) {
            for (int b : all) {
                if (!all.contains(product(a, b))) {
                    return false;
                }
            }
        }
        return true;
    }

    private List<Integer> subgroups() {
        return KNOWN_SUBGROUPS.computeIfAbsent(List.of(family, n), any -> allSubgroups());
    }

    private List<Integer> allSubgroups() {
        List<Integer> all = new ArrayList<>();
        for (int bits = 0; bits < 256; bits++) {
            if (closed(bits)) {
                all.add(bits);
            }
        }
        return all;
    }

    /** The least SUBGROUP that has all of the set: what all these have in common. */
    private int spanned(int bits) {
        int common = 255;
        for (int subgroup : subgroups()) {
            if ((subgroup & bits) == bits) {
                common &= subgroup;
            }
        }
        return common;
    }

    private boolean isNormal(int bits) {
        for (int a : elements(bits)) {
            for (int b = 0; b < size(); b++) {
                if (!elements(bits).contains(byElement(a, b))) {
                    return false;
                }
            }
        }
        return true;
    }

    private TreeSet<Integer> unlikeConjugates(int a) {
        TreeSet<Integer> all = new TreeSet<>();
        for (int b = 0; b < size(); b++) {
            all.add(byElement(a, b));
        }
        return all;
    }

    int group(int newFamily, int newN) {
        int[] most = {8, 4, 3, 1};
        if (newFamily < 0 || newFamily > 3 || newN < 1 || newN > most[newFamily]) {
            return BAD;
        }
        family = newFamily;
        n = newN;
        forget();
        return size();
    }

    int of(int a, int what) {
        if (!element(a) || what < 0 || what > 2) {
            return BAD;
        }
        return what == 0 ? order(a) : what == 1 ? inverse(a) : unlikeConjugates(a).size();
    }

    int times(int a, int b) {
        return element(a) && element(b) ? product(a, b) : BAD;
    }

    int power(int a, int k) {
        return element(a) && 0 <= k && k <= 99 ? multiple(a, k) : BAD;
    }

    int conjugate(int a, int b) {
        return element(a) && element(b) ? byElement(a, b) : BAD;
    }

    int span(int set) {
        return set < 0 || set >= Math.pow(2, size()) ? BAD : spanned(set);
    }

    int subgroup(int k) {
        return kth(subgroups(), k);
    }

    int normal(int set) {
        return !closed(set) ? BAD : isNormal(set) ? 1 : 0;
    }

    int centre(int what) {
        int bits = 0;
        int all = 0;
        for (int a = 0; a < size(); a++) {
            all += order(a) == what ? 1 : 0;
            boolean commutes = true;
            for (int b = 0; b < size(); b++) {
                commutes &= product(a, b) == product(b, a);
            }
            bits += commutes ? 1 << a : 0;
        }
        return what < 0 || what > 8 ? BAD : what == 0 ? bits : all;
    }

    private static int kth(List<Integer> all, int k) {
        return k == -1 ? all.size() : 0 <= k && k < all.size() ? all.get(k) : NONE;
    }

    // ---- the signature

    int handles(int h) {
        if (h != 0 && h != 1) {
            return BAD;
        }
        if (2 * h + periods.size() > 4) {
            return FULL;
        }
        int before = handles;
        handles = h;
        forget();
        return before;
    }

    int period(int m) {
        if (m < 2 || m > 8) {
            return BAD;
        }
        if (2 * handles + periods.size() + 1 > 4) {
            return FULL;
        }
        periods.add(m);
        forget();
        return periods.size();
    }

    int drop() {
        if (periods.isEmpty()) {
            return STATE;
        }
        periods.remove(periods.size() - 1);
        forget();
        return periods.size();
    }

    int periodOf(int i) {
        return 0 <= i && i < periods.size() ? periods.get(i) : NONE;
    }

    // ---- maps

    private void forget() {
        mapsByNow = null;
        classesByNow = null;
    }

    private int digitCount() {
        return 2 * handles + periods.size();
    }

    /** The digits of a code that has just as many ELEMENTS; null: it has not. */
    private int[] digits(int code) {
        String text = code < 0 ? "-" : code == 0 ? "" : String.valueOf(code);
        if (text.equals("-") || text.length() > digitCount()) {
            return null;
        }
        int[] digits = new int[digitCount()];
        for (int i = 0; i < text.length(); i++) {
            digits[digits.length - text.length() + i] = text.charAt(i) - '0';
        }
        for (int digit : digits) {
            if (!element(digit)) {
                return null;
            }
        }
        return digits;
    }

    private static int code(int[] digits) {
        int code = 0;
        for (int digit : digits) {
            code = code * 10 + digit;
        }
        return code;
    }

    int row(int code) {
        int[] row = digits(code);
        if (row == null) {
            return 0;
        }
        List<Integer> factors = new ArrayList<>();
        if (handles == 1) {
            factors.addAll(List.of(row[0], row[1], inverse(row[0]), inverse(row[1])));
        }
        for (int i = 0; i < periods.size(); i++) {
            int x = row[2 * handles + i];
            if (order(x) != periods.get(i)) {
                return 0;
            }
            factors.add(x);
        }
        int all = 0;
        for (int factor : factors) {
            all = product(all, factor);
        }
        if (all != 0) {
            return 0;
        }
        int set = 0;
        for (int a : row) {
            set |= 1 << a;
        }
        return spanned(set) == Math.pow(2, size()) - 1 ? 2 : 1;
    }

    private List<Integer> state() {
        List<Integer> state = new ArrayList<>(List.of(family, n, handles));
        state.addAll(periods);
        return state;
    }

    /** One model for each group with its signature, that has counted its maps and classes once. */
    private ReferenceModel known() {
        ReferenceModel there = KNOWN.get(state());
        if (there == null) {
            there = new ReferenceModel();
            there.become(state());
            KNOWN.put(state(), there);
        }
        return there;
    }

    List<Integer> maps() {
        if (mapsByNow == null) {
            ReferenceModel there = known();
            if (there.mapsByNow == null) {
                there.mapsByNow = there.allMaps();
            }
            mapsByNow = there.mapsByNow;
        }
        return mapsByNow;
    }

    private List<Integer> allMaps() {
        List<Integer> all = new ArrayList<>();
        int end = (int) Math.round(Math.pow(10, digitCount()));
        for (int code = 0; code < end; code++) {
            if (row(code) == 2) {
                all.add(code);
            }
        }
        return all;
    }

    int map(int k) {
        return kth(maps(), k);
    }

    int genus() {
        // 2 g less 2, in 840ths, so that what does not divide shows as such
        long all = 840L * size() * (2 * handles - 2);
        for (int m : periods) {
            if (size() % m != 0) {
                return NONE;
            }
            all += 840L * size() - 840L * size() / m;
        }
        long twice = all + 2 * 840;
        return twice >= 0 && twice % (2 * 840) == 0 ? (int) (twice / (2 * 840)) : NONE;
    }

    private TreeSet<Integer> places(int h, int x) {
        TreeSet<Integer> all = new TreeSet<>();
        for (int a = 0; a < size(); a++) {
            TreeSet<Integer> place = new TreeSet<>();
            for (int first : elements(h)) {
                for (int last : elements(spanned(1 << x))) {
                    place.add(product(product(first, a), last));
                }
            }
            all.add(bits(place));
        }
        return all;
    }

    private int[] mapDigits(int k) {
        return 0 <= k && k < maps().size() ? digits(maps().get(k)) : null;
    }

    int fixed(int k, int b) {
        int[] row = mapDigits(k);
        if (row == null || b < 1 || !element(b)) {
            return BAD;
        }
        int all = 0;
        for (int i = 0; i < periods.size(); i++) {
            for (int place : places(1, row[2 * handles + i])) {
                TreeSet<Integer> moved = new TreeSet<>();
                for (int a : elements(place)) {
                    moved.add(product(b, a));
                }
                all += bits(moved) == place ? 1 : 0;
            }
        }
        return all;
    }

    int left(int k, int set) {
        int[] row = mapDigits(k);
        if (row == null || !closed(set)) {
            return BAD;
        }
        int rest = size() / elements(set).size() * (2 - 2 * handles - periods.size());
        for (int i = 0; i < periods.size(); i++) {
            rest += places(set, row[2 * handles + i]).size();
        }
        if ((2 - rest) % 2 != 0 || rest > 2) {
            throw new IllegalStateException("no genus");
        }
        return (2 - rest) / 2;
    }

    int behind(int k, int set, int i) {
        int[] row = mapDigits(k);
        if (row == null || !closed(set) || i < 0 || i >= periods.size()) {
            return BAD;
        }
        if (!isNormal(set)) {
            return STATE;
        }
        int least = 1;
        while (!elements(set).contains(multiple(row[2 * handles + i], least))) {
            least++;
        }
        return least;
    }

    // ---- moves, classes

    int move(int code, int move) {
        if (row(code) == 0) {
            return BAD;
        }
        int[] row = digits(code);
        int[] was = row.clone();
        if (1 <= move && move <= periods.size() - 1) {
            int at = 2 * handles + move - 1;
            int x = was[at];
            int y = was[at + 1];
            int z = byElement(x, y);
            boolean same = periods.get(move - 1).equals(periods.get(move));
            row[at] = same ? y : z;
            row[at + 1] = same ? z : byElement(y, z);
        } else if (10 <= move && move <= 17 && element(move - 10)) {
            for (int i = 0; i < row.length; i++) {
                row[i] = byElement(was[i], move - 10);
            }
        } else if (handles == 1 && move == 20) {
            row[0] = product(was[0], was[1]);
        } else if (handles == 1 && move == 21) {
            row[1] = product(was[1], was[0]);
        } else {
            return BAD;
        }
        return code(row);
    }

    private Map<Integer, Integer> reached(int code) {
        Map<Integer, Integer> steps = new HashMap<>();
        steps.put(code, 0);
        List<Integer> line = new ArrayList<>(List.of(code));
        for (int at = 0; at < line.size(); at++) {
            for (int move = 0; move <= 21; move++) {
                int next = move(line.get(at), move);
                if (next != BAD && !steps.containsKey(next)) {
                    steps.put(next, steps.get(line.get(at)) + 1);
                    line.add(next);
                }
            }
        }
        return steps;
    }

    /** Joins what any move joins, in whichever direction, until nothing is left to join. */
    private List<TreeSet<Integer>> allClasses() {
        Map<Integer, Integer> least = new TreeMap<>();
        for (int code : maps()) {
            least.put(code, code);
        }
        boolean changed = true;
        while (changed) {
            changed = false;
            for (int code : maps()) {
                for (int move = 1; move <= 21; move++) {
                    int next = move(code, move);
                    if (next != BAD && !least.get(next).equals(least.get(code))) {
                        int less = Math.min(least.get(next), least.get(code));
                        least.put(next, less);
                        least.put(code, less);
                        changed = true;
                    }
                }
            }
        }
        Map<Integer, TreeSet<Integer>> byLeast = new TreeMap<>();
        for (int code : maps()) {
            byLeast.computeIfAbsent(least.get(code), any -> new TreeSet<>()).add(code);
        }
        return new ArrayList<>(byLeast.values());
    }

    private List<TreeSet<Integer>> classesNow() {
        if (classesByNow == null) {
            ReferenceModel there = known();
            if (there.classesByNow == null) {
                there.maps();
                there.classesByNow = there.allClasses();
            }
            classesByNow = there.classesByNow;
        }
        return classesByNow;
    }

    int classes(int what) {
        int greatest = 0;
        int first = NONE;
        for (int c = 0; c < classesNow().size(); c++) {
            if (classesNow().get(c).size() > greatest) {
                greatest = classesNow().get(c).size();
                first = c;
            }
        }
        return what == 0 ? classesNow().size() : what == 1 ? greatest : what == 2 ? first : BAD;
    }

    int classOf(int code) {
        for (int c = 0; c < classesNow().size(); c++) {
            if (classesNow().get(c).contains(code)) {
                return c;
            }
        }
        return NONE;
    }

    int member(int c, int i) {
        return c < 0 || c >= classesNow().size() ? BAD : kth(new ArrayList<>(classesNow().get(c)), i);
    }

    int apart(int code, int other) {
        if (!maps().contains(code) || !maps().contains(other)) {
            return BAD;
        }
        return reached(code).getOrDefault(other, NONE);
    }

    // ---- found, shelves

    int found(int h, int r, int g, int k) {
        if (h < 0 || h > 1 || r < 0 || r > 4 || 2 * h + r > 4 || g < 0 || g > 9) {
            return BAD;
        }
        List<Integer> all = new ArrayList<>();
        int end = (int) Math.round(Math.pow(10, r));
        for (int code = 0; code < end; code++) {
            ReferenceModel other = new ReferenceModel();
            other.family = family;
            other.n = n;
            other.handles = h;
            int least = 2;
            boolean rising = true;
            for (int scale = end / 10; scale >= 1; scale /= 10) {
                int m = code / scale % 10;
                rising &= m >= least && m <= 8;
                least = m;
                other.periods.add(m);
            }
            if (rising && other.genus() == g && !other.maps().isEmpty()) {
                all.add(code);
            }
        }
        return kth(all, k);
    }

    private void become(List<Integer> state) {
        family = state.get(0);
        n = state.get(1);
        handles = state.get(2);
        periods = new ArrayList<>(state.subList(3, state.size()));
        forget();
    }

    private static boolean shelf(int shelf) {
        return Arrays.asList(0, 1, 2, 3).contains(shelf);
    }

    int keep(int shelf) {
        if (!shelf(shelf)) {
            return BAD;
        }
        shelves.put(shelf, state());
        return shelves.size();
    }

    int use(int shelf) {
        if (!shelf(shelf)) {
            return BAD;
        }
        if (!shelves.containsKey(shelf)) {
            return STATE;
        }
        become(shelves.get(shelf));
        return size();
    }

    int empty(int shelf) {
        return !shelf(shelf) ? BAD : shelves.remove(shelf) == null ? 0 : 1;
    }

    int like(int shelf) {
        if (!shelf(shelf)) {
            return BAD;
        }
        for (int first : shelves.keySet()) {
            if (shelves.get(first).equals(shelves.get(shelf))) {
                return first;
            }
        }
        return STATE;
    }

    int unlike() {
        return (int) shelves.values().stream().distinct().count();
    }

    // ---- the image

    int image() {
        imageState = state();
        imageShelves = new TreeMap<>(shelves);
        return size();
    }

    int back() {
        if (imageState == null) {
            return STATE;
        }
        become(imageState);
        shelves = new TreeMap<>(imageShelves);
        return size();
    }

    int count(int what) {
        int[] counts = {size(), family, n, handles, periods.size(), shelves.size()};
        return 0 <= what && what < counts.length ? counts[what] : BAD;
    }
}
