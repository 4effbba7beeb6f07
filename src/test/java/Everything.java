import java.util.ArrayList;
import java.util.List;
import java.util.function.Supplier;

/**
 * What the calls answer about the state that an object is in: the group, the maps, the classes, then
 * what the shelves and the image hold (by using them). Each part asks an object of its own, made
 * alike, so that none is called more than 512 times.
 */
final class Everything {
    private static final int MOST_MAPS = 12;

    private final Calls subject;
    private final List<String> answers;

    private Everything(Calls subject, List<String> answers) {
        this.subject = subject;
        this.answers = answers;
    }

    static List<String> of(Supplier<Calls> made) {
        List<String> answers = new ArrayList<>();
        new Everything(made.get(), answers).askGroup();
        new Everything(made.get(), answers).askMaps();
        new Everything(made.get(), answers).askClasses();
        new Everything(made.get(), answers).askShelves();
        return answers;
    }

    private int ask(String name, int... numbers) {
        int answer = subject.answer(name, numbers);
        answers.add(Calls.text(name, numbers) + " " + answer);
        return answer;
    }

    private void askGroup() {
        int size = ask("count", 0);
        for (int a = 0; a < size; a++) {
            for (int what = 0; what < 3; what++) {
                ask("of", a, what);
            }
            for (int b = 0; b < size; b++) {
                ask("times", a, b);
                ask("conjugate", a, b);
            }
            ask("power", a, 5);
            ask("span", 1 << a);
            ask("span", (1 << a) | 2);
            ask("span", (1 << size) - 1 - (1 << a));
        }
        for (int k = ask("subgroup", -1) - 1; k >= 0; k--) {
            ask("normal", ask("subgroup", k));
        }
        for (int what = 0; what <= 8; what++) {
            ask("centre", what);
        }
    }

    private void askCounts() {
        for (int what = 0; what < 6; what++) {
            ask("count", what);
        }
        for (int i = 0; i < 4; i++) {
            ask("periodOf", i);
        }
        ask("map", -1);
        ask("genus");
    }

    private void askMaps() {
        askCounts();
        int maps = Math.min(ask("map", -1), MOST_MAPS);
        int whole = (1 << subject.answer("count", 0)) - 1;
        for (int k = 0; k < maps; k++) {
            int code = ask("map", k);
            ask("row", code);
            ask("row", code + 1);
            ask("fixed", k, 1);
            ask("left", k, 1);
            ask("left", k, whole);
            ask("behind", k, 1, 0);
            ask("behind", k, whole, 1);
            for (int move = 0; move <= 22; move++) {
                ask("move", code, move);
            }
        }
    }

    private void askClasses() {
        int maps = Math.min(ask("map", -1), MOST_MAPS);
        for (int what = 0; what < 3; what++) {
            ask("classes", what);
        }
        for (int k = 0; k < maps; k++) {
            int code = ask("map", k);
            int c = ask("classOf", code);
            ask("member", c, -1);
            ask("member", c, k);
            ask("apart", code, ask("map", 0));
        }
        for (int g = 0; g < 4; g++) {
            ask("found", 0, 2, g, -1);
            ask("found", 0, 3, g, 0);
            ask("found", 1, 1, g, -1);
            ask("found", 1, 2, g, 0);
        }
    }

    private void askShelves() {
        askEachShelf();
        ask("back");
        askCounts();
        askEachShelf();
        for (int shelf = 0; shelf < 4; shelf++) {
            ask("empty", shelf);
            ask("unlike");
        }
        ask("back");
        ask("unlike");
    }

    private void askEachShelf() {
        ask("unlike");
        for (int shelf = 0; shelf < 4; shelf++) {
            ask("like", shelf);
            ask("use", shelf);
            askCounts();
        }
    }
}
