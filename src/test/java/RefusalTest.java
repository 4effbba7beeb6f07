import java.util.ArrayList;
import java.util.Arrays;
import java.util.List;
import java.util.TreeSet;
import java.util.function.Supplier;

/**
 * Every call with every number around its bounds, in objects that stand at an edge: empty and full
 * signatures with and without a handle, empty and full shelves, with an image and without. Answers are
 * compared with the model's; behind what is refused or only asks, all is as it was, and behind what
 * changes, all is as in the model.
 */
public final class RefusalTest {
    private static final int LOW = Integer.MIN_VALUE, HIGH = Integer.MAX_VALUE;
    private static final int MOST_AT_ONCE = 60;
    /** Each is told as a line of changes: a name, then its numbers. */
    private static final String[] STATES = {
        "",
        "handles 1",
        "group 0 8",
        "group 0 2, period 2, period 2, period 2, period 2",
        "group 0 2, handles 1, period 2, period 2, image",
        "group 0 5, period 5, image, period 5, keep 0, group 1 2",
        "group 0 6, period 2, period 3, keep 1, period 6, keep 2, image, empty 1",
        "group 0 7, handles 1, period 7, keep 0, period 7, keep 3",
        "group 1 1, period 2, period 2, keep 0, image",
        "group 1 3, image, period 2, period 2, period 3, keep 3, keep 0",
        "group 1 4, handles 1, period 2, keep 0, keep 1, keep 2, keep 3, period 2",
        "group 2 2, period 2, period 2, period 2, keep 0, drop, keep 1, drop, keep 2, image, drop, keep 3",
        "group 2 3, handles 1, period 2, period 2, keep 0, image, empty 0",
        "group 3 1, period 4, period 4, period 4, keep 0, keep 1, keep 2, keep 3, image, group 0 1",
        "group 3 1, handles 1, keep 2, image, keep 1",
        "group 3 1, period 4, period 4, period 4, image"};

    private static int asked = 0;
    private static int wrong = 0;

    private final String state;
    private final int size;
    private final int maps;
    private final int classes;
    private final List<Integer> codes = new ArrayList<>();
    private final List<String> before;

    public static void main(String[] args) {
        for (String state : STATES) {
            new RefusalTest(state).askAll();
        }
        System.out.println(asked + " calls: " + (wrong == 0 ? "all answers are as due" : wrong + " are not as due"));
        if (wrong != 0) {
            System.exit(1);
        }
    }

    private RefusalTest(String state) {
        this.state = state;
        Calls model = made(Calls.ofModel());
        size = model.answer("count", 0);
        maps = model.answer("map", -1);
        classes = model.answer("classes", 0);
        for (int k = 0; k < maps; k += Math.max(1, maps - 1)) {
            codes.add(model.answer("map", k));
        }
        before = Everything.of(() -> made(Calls.ofModel()));
        same("a new one", Everything.of(() -> made(Calls.ofProgram())), before);
    }

    private Calls made(Calls subject) {
        for (String change : state.isEmpty() ? new String[0] : state.split(", ")) {
            String[] words = change.split(" ");
            int[] numbers = new int[words.length - 1];
            for (int i = 0; i < numbers.length; i++) {
                numbers[i] = Integer.parseInt(words[i + 1]);
            }
            subject.answer(words[0], numbers);
        }
        return subject;
    }

    /** All numbers around the first and the last that are allowed, and the least and greatest ints. */
    private static int[] around(int first, int last) {
        TreeSet<Integer> all = new TreeSet<>(Arrays.asList(LOW, LOW + 1, -2, -1, 0, HIGH - 1, HIGH));
        for (int by = -1; by <= 1; by++) {
            all.add(first + by);
            all.add(last + by);
        }
        return all.stream().mapToInt(Integer::intValue).toArray();
    }

    private static int[] few(int... numbers) {
        return numbers;
    }

    private int[] someCodes() {
        TreeSet<Integer> all = new TreeSet<>(Arrays.asList(LOW, HIGH, -1, 0, 1, 10, 11, 22, 44, 111, 1111, 2222, 9999, 10000));
        for (int code : codes) {
            all.addAll(Arrays.asList(code - 1, code, code + 1, -code, code + 10000));
        }
        return all.stream().mapToInt(Integer::intValue).toArray();
    }

    private void askAll() {
        int[] elements = around(0, size - 1);
        int[] sets = around(1, (1 << size) - 1);
        int[] numbers = around(0, maps - 1);
        int[] places = around(0, 3);
        for (String name : Calls.CHANGING) {
            change(name);
        }
        ask("of", elements, around(0, 2));
        ask("times", elements, elements);
        ask("power", elements, around(0, 99));
        ask("conjugate", elements, elements);
        ask("span", sets);
        ask("subgroup", around(0, before.size()));
        ask("subgroup", around(2, 16));
        ask("normal", sets);
        ask("centre", around(0, 8));
        ask("periodOf", places);
        ask("map", numbers);
        ask("row", someCodes());
        ask("genus");
        ask("fixed", numbers, around(1, size - 1));
        ask("left", numbers, sets);
        ask("behind", few(LOW, -1, 0, maps - 1, maps, HIGH), few(LOW, -1, 0, 1, 3, 5, 7, 9, 17, (1 << size) - 1, 1 << size, HIGH),
            few(LOW, -1, 0, 1, 2, 3, 4, HIGH));
        ask("move", someCodes(), around(1, 3));
        ask("move", someCodes(), around(10, 17));
        ask("move", someCodes(), around(20, 21));
        ask("classes", around(0, 2));
        ask("classOf", someCodes());
        ask("member", around(0, classes - 1), around(0, maps - 1));
        ask("apart", someCodes(), someCodes());
        ask("found", few(LOW, -1, 0, 1, 2, HIGH), few(LOW, -1, 0, 1, 2, 3, 4, 5, HIGH), few(LOW, -1, 0, 1, 9, 10, HIGH), few(LOW, -2, -1, 0, 1, 9, HIGH));
        ask("like", places);
        ask("unlike");
        ask("count", around(0, 5));
    }

    private void change(String name) {
        switch (name) {
            case "group":
                for (int[] numbers : together(around(0, 3), around(1, 8))) {
                    changed(name, numbers);
                }
                for (int[] numbers : together(around(0, 3), around(3, 4))) {
                    changed(name, numbers);
                }
                break;
            case "handles":
                for (int h : around(0, 1)) {
                    changed(name, h);
                }
                break;
            case "period":
                for (int m : around(2, 8)) {
                    changed(name, m);
                }
                break;
            case "keep": case "use": case "empty":
                for (int shelf : around(0, 3)) {
                    changed(name, shelf);
                }
                break;
            default:
                changed(name);
        }
    }

    /** One call that may change, on objects of its own. */
    private void changed(String name, int... numbers) {
        int due = made(Calls.ofModel()).answer(name, numbers);
        is(made(Calls.ofProgram()).answer(name, numbers), due, name, numbers);
        same(Calls.text(name, numbers), Everything.of(() -> behind(made(Calls.ofProgram()), name, numbers)),
            due < 0 ? before : Everything.of(() -> behind(made(Calls.ofModel()), name, numbers)));
    }

    private static Calls behind(Calls subject, String name, int... numbers) {
        subject.answer(name, numbers);
        return subject;
    }

    /** Calls that only ask, some of them on one object, then all that it answers. */
    private void ask(String name, int[]... choices) {
        List<int[]> all = together(choices);
        for (int from = 0; from < all.size(); from += MOST_AT_ONCE) {
            List<int[]> some = all.subList(from, Math.min(all.size(), from + MOST_AT_ONCE));
            Calls program = made(Calls.ofProgram());
            Calls model = made(Calls.ofModel());
            for (int[] numbers : some) {
                is(program.answer(name, numbers), model.answer(name, numbers), name, numbers);
            }
            Supplier<Calls> asked = () -> {
                Calls subject = made(Calls.ofProgram());
                some.forEach(numbers -> subject.answer(name, numbers));
                return subject;
            };
            same(name + " asked " + some.size() + " times", Everything.of(asked), before);
        }
    }

    /** Each number of the first with each of the second, and so on. */
    private static List<int[]> together(int[]... choices) {
        List<int[]> all = new ArrayList<>();
        all.add(new int[0]);
        for (int[] choice : choices) {
            List<int[]> longer = new ArrayList<>();
            for (int[] numbers : all) {
                for (int number : choice) {
                    int[] more = Arrays.copyOf(numbers, numbers.length + 1);
                    more[numbers.length] = number;
                    longer.add(more);
                }
            }
            all = longer;
        }
        return all;
    }

    private void is(int got, int due, String name, int... numbers) {
        asked++;
        if (got != due) {
            wrong++;
            System.out.println("[" + state + "] " + Calls.text(name, numbers) + " answered " + got + ", the model says " + due);
        }
    }

    private void same(String behind, List<String> got, List<String> due) {
        if (got.size() != due.size()) {
            wrong++;
            System.out.println("[" + state + "] behind " + behind + ": " + got.size() + " answers, due are " + due.size());
        }
        for (int i = 0; i < Math.min(got.size(), due.size()); i++) {
            if (!got.get(i).equals(due.get(i))) {
                wrong++;
                System.out.println("[" + state + "] behind " + behind + ": " + got.get(i) + ", due is " + due.get(i));
                return;
            }
        }
    }
}
