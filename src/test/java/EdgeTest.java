import java.util.ArrayList;
import java.util.List;
import java.util.regex.Matcher;
import java.util.regex.Pattern;

/**
 * A run of calls for each sentence of the document that names an edge, with answers worked out by hand.
 * Each run is made on the program and on the model; then once more on the program with what changes
 * alone, to see that the refused calls (and those that only ask) left everything as it was.
 */
public final class EdgeTest {
    private static final Pattern CALL = Pattern.compile("(\\w+)\\(([^)]*)\\) (-?\\w+)");
    private static final int[][] GROUPS = {{0, 1}, {0, 2}, {0, 3}, {0, 4}, {0, 5}, {0, 6}, {0, 7}, {0, 8},
        {1, 1}, {1, 2}, {1, 3}, {1, 4}, {2, 1}, {2, 2}, {2, 3}, {3, 1}};
    private static final int[] SIZES = {1, 2, 3, 4, 5, 6, 7, 8, 2, 4, 6, 8, 2, 4, 8, 8};

    private static int edges = 0;
    private static int wrong = 0;

    private record Call(String name, int[] numbers, int due) {
        String text() {
            return Calls.text(name, numbers);
        }

        boolean changes() {
            return Calls.CHANGING.contains(name) && due >= 0;
        }
    }

    public static void main(String[] args) {
        constants();
        everyGroup();
        termsOfGroups();
        termsOfSets();
        termsOfRows();
        termsOfSurfaces();
        termsOfMoves();
        newObject();
        groups();
        elements();
        sets();
        signatures();
        maps();
        surfaces();
        moves();
        classes();
        distances();
        found();
        shelves();
        likes();
        images();
        counts();
        lastCall();
        System.out.println(edges + " edges: " + (wrong == 0 ? "all answers are as due" : wrong + " are not as due"));
        if (wrong != 0) {
            System.exit(1);
        }
    }

    // ---- how a run is made

    private static void edge(String sentence, String... run) {
        edges++;
        List<Call> calls = read(String.join("; ", run));
        answers(sentence, "the program", Calls.ofProgram(), calls);
        answers(sentence, "the model", Calls.ofModel(), calls);
        List<Call> changing = calls.stream().filter(Call::changes).toList();
        List<String> due = Everything.of(() -> made(changing));
        List<String> got = Everything.of(() -> made(calls));
        if (got.size() != due.size()) {
            fail(sentence + ": " + got.size() + " answers behind it, due are " + due.size());
        }
        for (int i = 0; i < due.size() && i < got.size(); i++) {
            if (!due.get(i).equals(got.get(i))) {
                fail(sentence + ": what is refused or only asks has changed " + got.get(i) + " from " + due.get(i));
                return;
            }
        }
    }

    private static void answers(String sentence, String whose, Calls subject, List<Call> calls) {
        for (Call call : calls) {
            int got = subject.answer(call.name(), call.numbers());
            if (got != call.due()) {
                fail(sentence + ": " + whose + " answered " + got + " to " + call.text() + ", due is " + call.due());
            }
        }
    }

    private static Calls made(List<Call> calls) {
        Calls subject = Calls.ofProgram();
        for (Call call : calls) {
            subject.answer(call.name(), call.numbers());
        }
        return subject;
    }

    private static List<Call> read(String run) {
        List<Call> calls = new ArrayList<>();
        for (String text : run.split("; ?")) {
            Matcher call = CALL.matcher(text.trim());
            if (!call.matches()) {
                throw new IllegalArgumentException("no call: " + text);
            }
            String[] words = call.group(2).isEmpty() ? new String[0] : call.group(2).split(", ?");
            int[] numbers = new int[words.length];
            for (int i = 0; i < words.length; i++) {
                numbers[i] = number(words[i]);
            }
            calls.add(new Call(call.group(1), numbers, number(call.group(3))));
        }
        return calls;
    }

    private static int number(String word) {
        switch (word) {
            case "LOW":
                return Integer.MIN_VALUE;
            case "HIGH":
                return Integer.MAX_VALUE;
            case "NONE":
                return -1;
            case "BAD":
                return -2;
            case "STATE":
                return -3;
            case "FULL":
                return -4;
            default:
                return Integer.parseInt(word);
        }
    }

    private static void fail(String what) {
        wrong++;
        System.out.println(what);
    }

    // ---- the face

    private static void constants() {
        int[] got = {TurningGroups.NONE, TurningGroups.BAD, TurningGroups.STATE, TurningGroups.FULL};
        for (int i = 0; i < got.length; i++) {
            if (got[i] != -1 - i) {
                fail("the constants: " + got[i] + ", due is " + (-1 - i));
            }
        }
    }

    // ---- Terms 1

    /** The last ELEMENT and the first number that is none, in each group that there is. */
    private static void everyGroup() {
        for (int i = 0; i < GROUPS.length; i++) {
            String group = GROUPS[i][0] + ", " + GROUPS[i][1];
            int size = SIZES[i];
            int last = size - 1;
            int whole = (1 << size) - 1;
            edge("Terms 1, ELEMENTS of " + group,
                "group(" + group + ") " + size + "; count(0) " + size,
                "times(" + last + ", 0) " + last + "; times(0, " + last + ") " + last,
                "times(" + size + ", 0) BAD; times(0, " + size + ") BAD; times(" + size + ", " + size + ") BAD",
                "times(-1, 0) BAD; times(0, -1) BAD",
                "of(0, 0) 1; of(0, 1) 0; of(0, 2) 1; of(" + size + ", 0) BAD; of(" + size + ", 1) BAD; of(" + size + ", 2) BAD",
                "power(" + last + ", 0) 0; power(" + last + ", 1) " + last + "; power(" + size + ", 0) BAD",
                "conjugate(" + last + ", 0) " + last + "; conjugate(0, " + last + ") 0",
                "conjugate(" + size + ", 0) BAD; conjugate(0, " + size + ") BAD",
                "centre(1) 1");
            edge("Terms 1, sets of " + group,
                "group(" + group + ") " + size,
                "span(0) 1; span(1) 1; span(" + whole + ") " + whole + "; span(" + (whole + 1) + ") BAD; span(" + (whole + 2) + ") BAD",
                "normal(0) BAD; normal(1) 1; normal(" + whole + ") 1; normal(" + (whole + 1) + ") BAD; normal(" + (whole + 2) + ") BAD",
                "subgroup(0) 1");
            edge("Terms 1, MOVES by ELEMENTS of " + group,
                "group(" + group + ") " + size + "; handles(1) 0",
                "move(0, 10) 0; move(0, " + (10 + last) + ") 0; move(0, " + (10 + size) + ") BAD; move(0, 9) BAD");
        }
    }

    private static void termsOfGroups() {
        edge("Terms 1, RING: modulo n", "group(0, 8) 8",
            "times(7, 0) 7; times(7, 1) 0; times(1, 7) 0; times(7, 7) 6; times(3, 4) 7; times(4, 4) 0");
        edge("Terms 1, MIRRORED: of n 1", "group(1, 1) 2; times(0, 1) 1; times(1, 0) 1; times(1, 1) 0; of(1, 0) 2; of(1, 1) 1");
        edge("Terms 1, MIRRORED: together modulo n", "group(1, 4) 8; times(3, 0) 3; times(3, 1) 0; times(3, 3) 2; times(3, 5) 4; times(3, 7) 6");
        edge("Terms 1, MIRRORED: less that of b, 0 .. n less 1", "group(1, 4) 8",
            "times(4, 1) 7; times(4, 3) 5; times(4, 7) 1; times(7, 4) 3; times(7, 7) 0; times(5, 6) 3; times(7, 3) 4");
        edge("Terms 1, MIRRORED: SIDE is a by n", "group(1, 3) 6; times(2, 2) 1; times(2, 3) 5; times(3, 2) 4; times(3, 3) 0");
        edge("Terms 1, BITS: just one of a, b", "group(2, 3) 8; times(7, 0) 7; times(7, 7) 0; times(7, 1) 6; times(4, 3) 7; times(5, 6) 3");
        edge("Terms 1, BITS of 1", "group(2, 1) 2; times(0, 1) 1; times(1, 1) 0");
        edge("Terms 1, CROSSED: one's AXIS is 0, it TURNS not", "group(3, 1) 8",
            "times(0, 4) 4; times(4, 0) 4; times(4, 4) 0; times(4, 3) 7; times(3, 4) 7; times(7, 4) 3; times(4, 7) 3; times(7, 0) 7");
        edge("Terms 1, CROSSED: the same AXIS, it TURNS", "group(3, 1) 8",
            "times(1, 1) 4; times(1, 5) 0; times(5, 1) 0; times(5, 5) 4; times(3, 3) 4; times(7, 7) 4; times(3, 7) 0");
        edge("Terms 1, CROSSED: the AXIS behind a's (1, 2, 3, 1)", "group(3, 1) 8",
            "times(1, 2) 3; times(2, 3) 1; times(3, 1) 2; times(2, 1) 7; times(3, 2) 5; times(1, 3) 6");
        edge("Terms 1, CROSSED: an odd number of SIGNS and TURNS", "group(3, 1) 8",
            "times(7, 1) 6; times(3, 5) 6; times(7, 5) 2; times(5, 3) 2; times(1, 7) 2; times(5, 7) 6");
        edge("Terms 1, ORDER: the least k, 1 or more", "of(0, 0) 1",
            "group(0, 8) 8; of(1, 0) 8; of(2, 0) 4; of(4, 0) 2; of(6, 0) 4; of(7, 0) 8",
            "group(0, 7) 7; of(6, 0) 7; group(3, 1) 8; of(4, 0) 2; of(7, 0) 4; group(2, 3) 8; of(7, 0) 2");
        edge("Terms 1, INVERSE: a TIMES b is 0", "of(0, 1) 0",
            "group(0, 8) 8; of(1, 1) 7; of(7, 1) 1; of(4, 1) 4; group(1, 4) 8; of(1, 1) 3; of(7, 1) 7; group(3, 1) 8; of(7, 1) 3; of(4, 1) 4");
        edge("Terms 1, CONJUGATE: INVERSE of b, a, b", "group(1, 4) 8",
            "conjugate(1, 7) 3; conjugate(4, 1) 6; conjugate(7, 7) 7; conjugate(2, 7) 2",
            "group(3, 1) 8; conjugate(1, 7) 5; conjugate(7, 1) 3; conjugate(4, 7) 4",
            "group(1, 3) 6; conjugate(3, 1) 4; conjugate(3, 2) 5; conjugate(5, 1) 3");
    }

    private static void termsOfSets() {
        edge("Terms 1, SUBGROUP: with 0", "group(0, 4) 4; normal(0) BAD; normal(4) BAD; normal(5) 1; normal(14) BAD");
        edge("Terms 1, SUBGROUP: with a TIMES b of all in it", "group(0, 8) 8; normal(3) BAD; normal(21) BAD; normal(17) 1; normal(85) 1; normal(87) BAD");
        edge("Terms 1, SPAN: nothing and 0 span 1", "span(0) 1; span(1) 1; group(3, 1) 8; span(0) 1; span(1) 1; span(16) 17");
        edge("Terms 1, SPAN: the least", "group(0, 6) 6; span(4) 21; span(8) 9; span(12) 63; span(16) 21; span(20) 21; span(32) 63",
            "group(1, 4) 8; span(8) 15; span(128) 129; span(160) 165; span(192) 255");
        edge("Terms 1, NORMAL: all CONJUGATES", "group(1, 4) 8; normal(17) 0; normal(129) 0; normal(5) 1; normal(15) 1; normal(85) 1; normal(165) 1",
            "group(3, 1) 8; normal(17) 1; normal(51) 1; normal(153) 1; group(1, 2) 4; normal(5) 1; normal(9) 1");
        edge("Terms 1, CENTRE: the same of all b", "centre(0) 1; group(1, 2) 4; centre(0) 15; group(1, 3) 6; centre(0) 1; group(1, 4) 8; centre(0) 5",
            "group(3, 1) 8; centre(0) 17; group(2, 3) 8; centre(0) 255; group(1, 1) 2; centre(0) 3");
        edge("Terms 1, at first it is RING of 1", "count(0) 1; count(1) 0; count(2) 1");
    }

    // ---- Terms 2

    private static void termsOfRows() {
        edge("Terms 2, HANDLES 0 at first, PERIODS none at first", "count(3) 0; count(4) 0; periodOf(0) NONE; handles(0) 0");
        edge("Terms 2, 4 at most: without a HANDLE", "period(2) 1; period(2) 2; period(2) 3; period(2) 4; period(2) FULL; count(4) 4");
        edge("Terms 2, 4 at most: with a HANDLE", "handles(1) 0; period(2) 1; period(2) 2; period(2) FULL; count(4) 2; count(3) 1");
        edge("Terms 2, 4 at most: a HANDLE with PERIODS", "period(2) 1; period(2) 2; handles(1) 0; handles(0) 1; period(2) 3; handles(1) FULL; count(3) 0");
        edge("Terms 2, nothing TIMES is 0, CODE 0 of none", "map(-1) 1; map(0) 0; row(0) 2; row(1) 0; row(-1) 0",
            "group(0, 2) 2; map(-1) 0; row(0) 1; row(1) 0; group(3, 1) 8; map(-1) 0; row(0) 1");
        edge("Terms 2, ORDER is that PERIOD", "group(0, 4) 4; period(4) 1; period(4) 2; row(13) 2; row(22) 0; row(31) 2; row(0) 0; map(-1) 2",
            "drop() 1; drop() 0; period(2) 1; period(2) 2; row(22) 1; row(13) 0; row(0) 0; map(-1) 0");
        edge("Terms 2, one PERIOD: its x is 0, whose ORDER is none", "period(2) 1; map(-1) 0; row(0) 0; group(0, 2) 2; row(0) 0; row(1) 0; map(-1) 0");
        edge("Terms 2, all x in order", "group(1, 3) 6; period(2) 1; period(2) 2; period(3) 3; row(341) 2; row(342) 0; row(432) 2; row(431) 0");
        edge("Terms 2, u TIMES v TIMES INVERSE of u TIMES INVERSE of v", "group(1, 3) 6; handles(1) 0; period(3) 1; row(131) 2; row(132) 0; row(312) 2; row(311) 0",
            "drop() 0; row(13) 0; row(12) 1; row(3) 1; map(-1) 0");
        edge("Terms 2, u and v have any ORDER", "handles(1) 0; row(0) 2; group(0, 8) 8; row(0) 1; row(1) 2; row(10) 2; row(24) 1; row(77) 2; row(26) 1");
        edge("Terms 2, digits: the first the highest", "group(0, 8) 8; handles(1) 0; row(17) 2; row(8) 0; row(18) 0; row(80) 0; row(78) 0; row(100) 0",
            "period(8) 1; period(8) 2; row(17) 2; row(7717) 2; row(7771) 2; row(7780) 0; row(10017) 0");
        edge("Terms 2, WHOLE: SPAN all", "group(2, 2) 4; period(2) 1; period(2) 2; row(11) 1; row(22) 1; row(33) 1; map(-1) 0; period(2) 3; row(123) 2; map(-1) 6");
        edge("Terms 2, MAPS rising, numbered from 0", "group(0, 3) 3; handles(1) 0; map(-1) 8; map(0) 1; map(1) 2; map(2) 10; map(3) 11; map(4) 12; map(5) 20; map(6) 21; map(7) 22; map(8) NONE");
        edge("Terms 2, full without a HANDLE", "group(0, 2) 2; period(2) 1; period(2) 2; period(2) 3; period(2) 4",
            "map(-1) 1; map(0) 1111; map(1) NONE; row(1111) 2; row(111) 0; row(11111) 0; row(0) 0; row(1112) 0; genus() 1; left(0, 3) 0; left(0, 1) 1; fixed(0, 1) 4");
        edge("Terms 2, full with a HANDLE", "group(0, 2) 2; handles(1) 0; period(2) 1; period(2) 2",
            "map(-1) 4; map(0) 11; map(1) 111; map(2) 1011; map(3) 1111; map(4) NONE; row(11) 2; row(1) 0; genus() 2; left(0, 1) 2; left(0, 3) 1; fixed(0, 1) 2");
        edge("Terms 2, most MAPS", "group(0, 7) 7; handles(1) 0; period(7) 1; period(7) 2",
            "map(-1) 294; map(0) 16; map(293) 6661; map(294) NONE; classes(0) 6; classes(1) 96; classes(2) 3");
        edge("Terms 2, full, by the greatest ELEMENTS", "group(0, 8) 8; handles(1) 0; period(8) 1; period(8) 2; map(-1) 256; map(0) 17; map(255) 7771; map(256) NONE; row(7771) 2; row(7777) 0");
        edge("Terms 2, a HANDLE with one PERIOD", "group(1, 3) 6; handles(1) 0; period(3) 1; map(-1) 18; map(0) 131; map(17) 541; map(18) NONE; genus() 3; left(0, 1) 3; left(0, 63) 1");
    }

    private static void termsOfSurfaces() {
        edge("Terms 2, GENUS: some PERIOD does not divide SIZE", "group(0, 6) 6; period(4) 1; genus() NONE; period(4) 2; genus() NONE; period(2) 3; genus() NONE",
            "drop() 2; drop() 1; drop() 0; period(8) 1; handles(1) 0; genus() NONE");
        edge("Terms 2, GENUS: a PERIOD is above SIZE", "handles(1) 0; period(2) 1; genus() NONE; group(0, 4) 4; genus() 2; group(0, 3) 3; genus() NONE");
        edge("Terms 2, GENUS: below 0", "group(0, 2) 2; genus() NONE; group(0, 3) 3; genus() NONE; group(0, 8) 8; genus() NONE; period(8) 1; genus() NONE");
        edge("Terms 2, GENUS: 0 is the least", "genus() 0; group(0, 8) 8; period(8) 1; period(8) 2; genus() 0; group(1, 3) 6; drop() 1; drop() 0; period(2) 1; period(2) 2; period(3) 3; genus() 0");
        edge("Terms 2, GENUS: no whole number", "group(0, 2) 2; handles(1) 0; period(2) 1; genus() NONE; period(2) 2; genus() 2",
            "group(0, 6) 6; drop() 1; genus() NONE; drop() 0; period(6) 1; genus() NONE; drop() 0; period(3) 1; genus() 3");
        edge("Terms 2, GENUS: 1 by a HANDLE alone", "handles(1) 0; genus() 1; group(3, 1) 8; genus() 1; group(0, 7) 7; genus() 1");
        edge("Terms 2, GENUS: the greatest", "group(0, 8) 8; period(8) 1; period(8) 2; period(8) 3; period(8) 4; genus() 7",
            "drop() 3; drop() 2; handles(1) 0; genus() 8");
        edge("Terms 2, GENUS: told without MAPS", "group(2, 3) 8; handles(1) 0; map(-1) 0; genus() 1; period(2) 1; map(-1) 0; genus() 3; period(4) 2; genus() 6; drop() 1; period(8) 2; genus() NONE");
        edge("Terms 2, PLACES: like ones are one", "group(0, 8) 8; period(8) 1; period(8) 2; fixed(0, 1) 2; fixed(0, 4) 2; fixed(3, 7) 2",
            "group(0, 4) 4; drop() 1; drop() 0; period(2) 1; period(4) 2; period(4) 3; fixed(0, 1) 2; fixed(0, 2) 4; fixed(0, 3) 2");
        edge("Terms 2, FIXED: of like x of two PERIODS PLACES count twice", "group(0, 2) 2; period(2) 1; period(2) 2; fixed(0, 1) 2; period(2) 3; period(2) 4; fixed(0, 1) 4",
            "drop() 3; drop() 2; handles(1) 0; fixed(0, 1) 2");
        edge("Terms 2, FIXED: none of no PERIODS", "group(0, 8) 8; handles(1) 0; fixed(0, 1) 0; fixed(0, 7) 0; fixed(47, 4) 0");
        edge("Terms 2, FIXED: a TIMES SPAN, b ahead", "group(1, 3) 6; period(2) 1; period(2) 2; period(3) 3; fixed(0, 1) 2; fixed(0, 3) 2; fixed(0, 5) 2");
        edge("Terms 2, LEFT by 0 alone is GENUS, by all the HANDLES", "left(0, 1) 0; handles(1) 0; left(0, 1) 1; group(0, 7) 7; period(7) 1; period(7) 2; genus() 7; left(0, 1) 7; left(0, 127) 1; left(293, 1) 7",
            "handles(0) 1; left(0, 1) 0; left(0, 127) 0; period(7) 3; period(7) 4; left(0, 1) 6; left(0, 127) 0");
        edge("Terms 2, LEFT: h TIMES a TIMES SPAN of x, like ones once", "group(1, 3) 6; period(2) 1; period(2) 2; period(2) 3; period(2) 4; genus() 1; left(0, 1) 1; left(0, 7) 1; left(0, 9) 0; left(0, 63) 0");
        edge("Terms 2, BEHIND: the least k, 1 or more", "group(0, 8) 8; period(8) 1; period(8) 2; behind(0, 1, 0) 8; behind(0, 17, 0) 4; behind(0, 85, 0) 2; behind(0, 255, 0) 1; behind(3, 1, 1) 8; behind(3, 255, 1) 1");
    }

    // ---- Terms 3

    private static void termsOfMoves() {
        edge("Terms 3, MOVE i: the second the CONJUGATE of the first", "group(1, 3) 6; period(2) 1; period(2) 2; period(3) 3; move(341, 1) 451; move(451, 1) 531; move(531, 1) 341");
        edge("Terms 3, MOVE i: unlike PERIODS, done twice", "group(1, 3) 6; period(2) 1; period(3) 2; period(2) 3; row(315) 2; row(314) 0; move(315, 1) 425; move(315, 2) 324");
        edge("Terms 3, MOVE 10 and a: all become their CONJUGATES", "group(1, 4) 8; handles(1) 0; period(2) 1; period(2) 2; row(1446) 2; move(1446, 10) 1446; move(1446, 11) 1664; move(1446, 17) 3664");
        edge("Terms 3, MOVES 20, 21 with a HANDLE", "group(0, 8) 8; handles(1) 0; move(1, 20) 11; move(1, 21) 1; move(77, 20) 67; move(77, 21) 76; move(10, 20) 10; move(10, 21) 11",
            "group(1, 3) 6; period(3) 1; row(131) 2; move(131, 20) 431; move(131, 21) 151");
        edge("Terms 3, MOVES 20, 21 without a HANDLE", "move(0, 20) BAD; move(0, 21) BAD; group(0, 2) 2; period(2) 1; period(2) 2; move(11, 20) BAD; move(11, 21) BAD");
        edge("Terms 3, CLASSES numbered by their least CODES", "group(0, 5) 5; period(5) 1; period(5) 2; classOf(14) 0; classOf(41) 0; classOf(23) 1; classOf(32) 1",
            "period(5) 3; map(-1) 12; classes(0) 4; classOf(113) 0; classOf(122) 1; classOf(244) 2; classOf(334) 3; classOf(433) 3");
        edge("Terms 3, APART: 0 the same, NONE: none do", "group(0, 2) 2; handles(1) 0; period(2) 1; period(2) 2; apart(11, 11) 0; apart(11, 111) NONE; apart(111, 11) NONE; apart(111, 1011) 2; apart(1011, 111) 2; apart(1111, 1111) 0");
        edge("Terms 3, APART: from one to another", "group(0, 3) 3; handles(1) 0; apart(1, 11) 1; apart(11, 1) 2; group(0, 4) 4; apart(1, 11) 1; apart(11, 1) 3");
        edge("Terms 3, APART: by each MOVE alone", "group(1, 3) 6; period(2) 1; period(2) 2; period(3) 3; apart(341, 451) 1; apart(341, 352) 1; apart(341, 531) 1; apart(341, 542) 1; apart(341, 432) 1",
            "group(0, 8) 8; drop() 2; drop() 1; drop() 0; handles(1) 0; period(8) 1; period(8) 2; apart(1017, 1071) 1; apart(117, 1117) 1; apart(1017, 1117) 1; apart(1017, 17) NONE; apart(17, 1017) NONE");
        edge("Terms 3, FOUND: each no less than the one ahead", "group(1, 3) 6; found(0, 3, 0, -1) 1; found(0, 3, 0, 0) 223; found(0, 3, 0, 1) NONE; period(3) 1; period(2) 2; period(2) 3; map(-1) 6; genus() 0");
        edge("Terms 3, FOUND: there are MAPS and GENUS is g", "group(0, 4) 4; found(0, 4, 1, -1) 0; found(0, 3, 1, -1) 1; found(0, 3, 1, 0) 244; group(2, 2) 4; found(0, 4, 1, -1) 1; found(0, 4, 1, 0) 2222; found(0, 3, 1, -1) 0; found(0, 3, 0, 0) 222");
        edge("Terms 3, FOUND: rising as digits", "group(0, 6) 6; found(0, 4, 3, -1) 2; found(0, 4, 3, 0) 2266; found(0, 4, 3, 1) 2336; found(0, 4, 3, 2) NONE");
        edge("Terms 3, SHELVES are empty at first", "count(5) 0; unlike() 0; use(0) STATE; use(3) STATE; like(0) STATE; like(3) STATE; empty(0) 0; empty(3) 0");
    }

    // ---- Promises 1 to 6

    private static void newObject() {
        edge("Promise 1, RING of 1", "count(0) 1; count(1) 0; count(2) 1; times(0, 0) 0; times(1, 0) BAD; subgroup(-1) 1; subgroup(0) 1; subgroup(1) NONE");
        edge("Promise 1, no HANDLE, no PERIODS", "count(3) 0; count(4) 0; periodOf(0) NONE; drop() STATE; map(-1) 1; map(0) 0; map(1) NONE; genus() 0; classes(0) 1; classes(1) 1; classes(2) 0");
        edge("Promise 1, no SHELVES, no IMAGE", "count(5) 0; unlike() 0; back() STATE; use(0) STATE; use(1) STATE; use(2) STATE; use(3) STATE");
    }

    private static void groups() {
        edge("Promise 2, a FAMILY is 0 .. 3", "group(1, 3) 6; group(-1, 1) BAD; group(4, 1) BAD; group(LOW, 1) BAD; group(HIGH, 1) BAD; group(0, 1) 1; group(3, 1) 8");
        edge("Promise 2, RING: n 1 .. 8", "group(1, 3) 6; group(0, 0) BAD; group(0, 9) BAD; group(0, -1) BAD; group(0, LOW) BAD; group(0, HIGH) BAD; count(0) 6; count(1) 1; count(2) 3; group(0, 1) 1; group(0, 8) 8");
        edge("Promise 2, MIRRORED: n 1 .. 4", "group(0, 5) 5; group(1, 0) BAD; group(1, 5) BAD; group(1, -1) BAD; group(1, LOW) BAD; group(1, HIGH) BAD; count(0) 5; count(1) 0; count(2) 5; group(1, 1) 2; group(1, 4) 8");
        edge("Promise 2, BITS: n 1 .. 3", "group(0, 5) 5; group(2, 0) BAD; group(2, 4) BAD; group(2, -1) BAD; group(2, LOW) BAD; group(2, HIGH) BAD; count(0) 5; group(2, 1) 2; group(2, 3) 8");
        edge("Promise 2, CROSSED: n 1", "group(0, 5) 5; group(3, 0) BAD; group(3, 2) BAD; group(3, -1) BAD; group(3, LOW) BAD; group(3, HIGH) BAD; count(0) 5; group(3, 1) 8; count(2) 1");
        edge("Promise 2, both are wrong", "group(1, 2) 4; group(LOW, LOW) BAD; group(HIGH, HIGH) BAD; group(-1, 0) BAD; group(4, 9) BAD; count(1) 1; count(2) 2");
        edge("Promise 2, the SIGNATURE stays", "handles(1) 0; period(7) 1; period(8) 2; group(0, 3) 3; count(3) 1; count(4) 2; periodOf(0) 7; periodOf(1) 8; group(0, 9) BAD; periodOf(1) 8");
    }

    private static void elements() {
        edge("Promise 3, a is an ELEMENT", "group(0, 8) 8; of(0, 0) 1; of(7, 0) 8; of(8, 0) BAD; of(-1, 0) BAD; of(LOW, 0) BAD; of(HIGH, 0) BAD; of(8, 1) BAD; of(-1, 2) BAD");
        edge("Promise 3, what is 0 .. 2", "group(1, 3) 6; of(4, 0) 2; of(4, 1) 4; of(4, 2) 3; of(4, 3) BAD; of(4, -1) BAD; of(4, LOW) BAD; of(4, HIGH) BAD; of(6, 3) BAD; of(LOW, HIGH) BAD");
        edge("Promise 3, CONJUGATES, itself too", "of(0, 2) 1; group(0, 8) 8; of(7, 2) 1; group(1, 4) 8; of(2, 2) 1; of(3, 2) 2; of(7, 2) 2; group(1, 3) 6; of(5, 2) 3; of(1, 2) 2");
        edge("Promise 4, a and b are ELEMENTS", "group(0, 7) 7; times(6, 6) 5; times(7, 6) BAD; times(6, 7) BAD; times(-1, 6) BAD; times(6, -1) BAD; times(LOW, 0) BAD; times(0, LOW) BAD; times(HIGH, 0) BAD; times(0, HIGH) BAD; times(HIGH, LOW) BAD");
        edge("Promise 4, behind another group", "group(0, 8) 8; times(7, 7) 6; group(0, 3) 3; times(2, 2) 1; times(3, 0) BAD; times(7, 7) BAD; group(9, 9) BAD; times(2, 2) 1");
        edge("Promise 5, k is 0 .. 99", "group(0, 8) 8; power(1, 0) 0; power(1, 1) 1; power(1, 98) 2; power(1, 99) 3; power(1, 100) BAD; power(1, -1) BAD; power(1, LOW) BAD; power(1, HIGH) BAD; power(7, 99) 5");
        edge("Promise 5, a is an ELEMENT", "group(3, 1) 8; power(7, 99) 3; power(8, 99) BAD; power(-1, 0) BAD; power(LOW, 1) BAD; power(HIGH, 1) BAD; power(8, 100) BAD; power(7, 0) 0; power(0, 99) 0; power(1, 2) 4; power(1, 3) 5; power(1, 4) 0");
        edge("Promise 6, a and b are ELEMENTS", "group(1, 3) 6; conjugate(5, 5) 5; conjugate(6, 5) BAD; conjugate(5, 6) BAD; conjugate(-1, 5) BAD; conjugate(5, -1) BAD; conjugate(LOW, 0) BAD; conjugate(0, LOW) BAD; conjugate(HIGH, 0) BAD; conjugate(0, HIGH) BAD");
    }

    // ---- Promises 7 to 10

    private static void sets() {
        edge("Promise 7, none: 1", "span(0) 1; group(0, 8) 8; span(0) 1; group(1, 3) 6; span(0) 1");
        edge("Promise 7, a set with what is no ELEMENT", "span(1) 1; span(2) BAD; span(3) BAD; group(0, 7) 7; span(127) 127; span(128) BAD; span(129) BAD; span(255) BAD; span(256) BAD",
            "group(0, 8) 8; span(255) 255; span(256) BAD; span(257) BAD; span(-1) BAD; span(-256) BAD; span(LOW) BAD; span(HIGH) BAD");
        edge("Promise 8, the k-th from 0", "group(2, 3) 8; subgroup(-1) 16; subgroup(0) 1; subgroup(1) 3; subgroup(15) 255; subgroup(16) NONE; subgroup(-2) NONE; subgroup(LOW) NONE; subgroup(HIGH) NONE");
        edge("Promise 8, the fewest", "subgroup(-1) 1; subgroup(0) 1; subgroup(1) NONE; subgroup(-2) NONE; group(0, 7) 7; subgroup(-1) 2; subgroup(0) 1; subgroup(1) 127; subgroup(2) NONE");
        edge("Promise 8, rising as bits", "group(1, 4) 8; subgroup(-1) 10; subgroup(0) 1; subgroup(1) 5; subgroup(2) 15; subgroup(3) 17; subgroup(4) 33; subgroup(5) 65; subgroup(6) 85; subgroup(7) 129; subgroup(8) 165; subgroup(9) 255; subgroup(10) NONE");
        edge("Promise 9, it is no SUBGROUP", "group(1, 3) 6; normal(1) 1; normal(7) 1; normal(9) 0; normal(33) 0; normal(63) 1; normal(0) BAD; normal(8) BAD; normal(3) BAD; normal(25) BAD; normal(64) BAD; normal(65) BAD; normal(127) BAD; normal(-1) BAD; normal(LOW) BAD; normal(HIGH) BAD");
        edge("Promise 9, RING of 1", "normal(1) 1; normal(0) BAD; normal(2) BAD; normal(3) BAD");
        edge("Promise 10, what is 0 .. 8", "group(0, 8) 8; centre(0) 255; centre(1) 1; centre(2) 1; centre(3) 0; centre(4) 2; centre(7) 0; centre(8) 4; centre(9) BAD; centre(-1) BAD; centre(LOW) BAD; centre(HIGH) BAD");
        edge("Promise 10, above SIZE", "centre(0) 1; centre(1) 1; centre(2) 0; centre(8) 0; centre(9) BAD; group(0, 7) 7; centre(7) 6; centre(8) 0");
    }

    // ---- Promises 11 to 14

    private static void signatures() {
        edge("Promise 11, h is 0, 1: what they were", "handles(0) 0; handles(1) 0; handles(1) 1; handles(0) 1; handles(0) 0; handles(-1) BAD; handles(2) BAD; handles(LOW) BAD; handles(HIGH) BAD; handles(1) 0; handles(2) BAD; count(3) 1");
        edge("Promise 11, two PERIODS are not too many", "period(2) 1; period(3) 2; handles(1) 0; handles(1) 1; handles(0) 1; handles(1) 0; count(3) 1; count(4) 2");
        edge("Promise 11, three and four are", "period(2) 1; period(3) 2; period(4) 3; handles(1) FULL; count(3) 0; period(5) 4; handles(1) FULL; count(3) 0; handles(0) 0; drop() 3; handles(1) FULL; drop() 2; handles(1) 0");
        edge("Promise 11, BAD ahead of FULL", "period(2) 1; period(2) 2; period(2) 3; period(2) 4; handles(2) BAD; handles(-1) BAD; handles(HIGH) BAD; handles(LOW) BAD; handles(1) FULL");
        edge("Promise 12, 2 .. 8 each", "period(1) BAD; period(2) 1; period(8) 2; period(9) BAD; period(0) BAD; period(-1) BAD; period(-2) BAD; period(LOW) BAD; period(HIGH) BAD; count(4) 2; periodOf(0) 2; periodOf(1) 8; periodOf(2) NONE");
        edge("Promise 12, FULL behind the fourth", "period(8) 1; period(7) 2; period(6) 3; period(5) 4; period(4) FULL; period(2) FULL; period(8) FULL; count(4) 4; periodOf(0) 8; periodOf(1) 7; periodOf(2) 6; periodOf(3) 5; periodOf(4) NONE; drop() 3; period(3) 4; periodOf(3) 3");
        edge("Promise 12, FULL with a HANDLE behind the second", "handles(1) 0; period(8) 1; period(2) 2; period(4) FULL; count(4) 2; periodOf(2) NONE; handles(0) 1; period(4) 3; periodOf(2) 4");
        edge("Promise 12, BAD ahead of FULL", "handles(1) 0; period(3) 1; period(3) 2; period(9) BAD; period(1) BAD; period(LOW) BAD; period(HIGH) BAD; period(3) FULL; handles(0) 1; period(3) 3; period(3) 4; period(9) BAD; period(1) BAD; period(8) FULL; period(2) FULL");
        edge("Promise 13, none", "drop() STATE; handles(1) 0; drop() STATE; count(3) 1; period(2) 1; drop() 0; drop() STATE; count(4) 0; map(-1) 1");
        edge("Promise 13, the last goes", "period(2) 1; period(3) 2; period(4) 3; period(5) 4; drop() 3; periodOf(2) 4; periodOf(3) NONE; drop() 2; drop() 1; periodOf(0) 2; periodOf(1) NONE; drop() 0; periodOf(0) NONE; drop() STATE");
        edge("Promise 14, none such", "periodOf(0) NONE; periodOf(-1) NONE; period(5) 1; periodOf(0) 5; periodOf(1) NONE; periodOf(-1) NONE; period(6) 2; period(7) 3; period(8) 4; periodOf(3) 8; periodOf(4) NONE; periodOf(-1) NONE; periodOf(LOW) NONE; periodOf(HIGH) NONE");
    }

    // ---- Promises 15 and 16

    private static void maps() {
        edge("Promise 15, how many (k -1), no such one", "group(0, 5) 5; period(5) 1; period(5) 2; map(-1) 4; map(0) 14; map(3) 41; map(4) NONE; map(-2) NONE; map(LOW) NONE; map(HIGH) NONE");
        edge("Promise 15, no MAPS", "group(0, 5) 5; map(-1) 0; map(0) NONE; map(-2) NONE; period(2) 1; period(2) 2; map(-1) 0; map(0) NONE; map(1) NONE; map(HIGH) NONE");
        edge("Promise 15, of nothing", "map(-1) 1; map(0) 0; map(1) NONE; map(-2) NONE; handles(1) 0; map(-1) 1; map(0) 0; map(1) NONE");
        edge("Promise 15, as soon as the SIGNATURE is another", "group(0, 3) 3; map(-1) 0; period(3) 1; map(-1) 0; period(3) 2; map(-1) 2; map(0) 12; period(3) 3; map(-1) 2; map(0) 111; drop() 2; map(0) 12; handles(1) 0; map(-1) 18; map(0) 12; handles(0) 1; map(-1) 2");
        edge("Promise 15, as soon as THE GROUP is another", "period(2) 1; period(2) 2; map(-1) 0; group(0, 2) 2; map(-1) 1; map(0) 11; group(2, 2) 4; map(-1) 0; group(1, 2) 4; map(-1) 0; group(1, 1) 2; map(-1) 1; group(1, 3) 6; map(-1) 0");
        edge("Promise 16, what no CODE can be", "group(0, 8) 8; period(8) 1; period(8) 2; row(17) 2; row(-17) 0; row(LOW) 0; row(HIGH) 0; row(-1) 0; row(0) 0; row(117) 0; row(100) 0; row(170) 0; row(71) 2; row(99) 0; row(88) 0");
        edge("Promise 16, of nothing", "row(0) 2; row(1) 0; row(-1) 0; row(10) 0; row(-10) 0; row(LOW) 0; row(HIGH) 0; group(0, 8) 8; row(0) 1; row(1) 0; row(8) 0");
        edge("Promise 16, a digit that is no ELEMENT", "group(0, 3) 3; handles(1) 0; row(22) 2; row(23) 0; row(32) 0; row(3) 0; row(30) 0; row(12) 2; row(19) 0; row(0) 1; row(-22) 0; row(222) 0");
        edge("Promise 16, a ROW that isn't WHOLE", "group(0, 8) 8; period(4) 1; period(4) 2; row(26) 1; row(62) 1; row(22) 0; row(44) 0; map(-1) 0; period(2) 3; row(224) 1; row(664) 1; row(264) 0");
        edge("Promise 16, of four digits", "group(2, 2) 4; period(2) 1; period(2) 2; period(2) 3; period(2) 4; row(1122) 2; row(1111) 1; row(3333) 1; row(1123) 0; row(112) 0; row(11221) 0; row(3344) 0; row(-1122) 0");
    }

    // ---- Promises 17 to 20

    private static void surfaces() {
        edge("Promise 17, NONE", "genus() 0; period(2) 1; genus() NONE; drop() 0; group(0, 2) 2; genus() NONE; handles(1) 0; genus() 1");
        edge("Promise 18, b is 1 .. SIZE less 1", "group(0, 8) 8; period(8) 1; period(8) 2; fixed(0, 1) 2; fixed(0, 7) 2; fixed(0, 0) BAD; fixed(0, 8) BAD; fixed(0, -1) BAD; fixed(0, LOW) BAD; fixed(0, HIGH) BAD");
        edge("Promise 18, k-th MAP", "group(0, 3) 3; period(3) 1; period(3) 2; fixed(0, 2) 2; fixed(1, 2) 2; fixed(2, 2) BAD; fixed(-1, 2) BAD; fixed(LOW, 2) BAD; fixed(HIGH, 2) BAD; fixed(2, 0) BAD; fixed(-1, 3) BAD");
        edge("Promise 18, RING of 1 has no b", "fixed(0, 0) BAD; fixed(0, 1) BAD; fixed(0, -1) BAD; fixed(1, 0) BAD; handles(1) 0; fixed(0, 0) BAD; fixed(0, 1) BAD");
        edge("Promise 18, no MAPS", "group(0, 4) 4; fixed(0, 1) BAD; fixed(-1, 1) BAD; period(3) 1; fixed(0, 1) BAD");
        edge("Promise 19, k-th MAP", "group(0, 3) 3; period(3) 1; period(3) 2; left(0, 1) 0; left(1, 7) 0; left(2, 1) BAD; left(-1, 1) BAD; left(LOW, 1) BAD; left(HIGH, 1) BAD; left(2, 3) BAD");
        edge("Promise 19, it is no SUBGROUP", "group(0, 4) 4; handles(1) 0; left(0, 1) 1; left(0, 5) 1; left(0, 15) 1; left(0, 0) BAD; left(0, 2) BAD; left(0, 3) BAD; left(0, 16) BAD; left(0, 17) BAD; left(0, 31) BAD; left(0, -1) BAD; left(0, LOW) BAD; left(0, HIGH) BAD");
        edge("Promise 19, one that is not NORMAL", "group(1, 3) 6; period(2) 1; period(2) 2; period(2) 3; period(2) 4; left(0, 9) 0; left(0, 17) 0; left(0, 33) 0");
        edge("Promise 19, of nothing", "left(0, 1) 0; left(0, 0) BAD; left(0, 2) BAD; left(1, 1) BAD; left(-1, 1) BAD; handles(1) 0; left(0, 1) 1; group(0, 2) 2; handles(0) 1; left(0, 1) BAD");
        edge("Promise 20, k-th MAP", "group(0, 3) 3; period(3) 1; period(3) 2; behind(0, 1, 0) 3; behind(1, 7, 0) 1; behind(2, 1, 0) BAD; behind(-1, 1, 0) BAD; behind(LOW, 1, 0) BAD; behind(HIGH, 1, 0) BAD");
        edge("Promise 20, it is no SUBGROUP", "group(0, 3) 3; period(3) 1; period(3) 2; behind(0, 0, 0) BAD; behind(0, 2, 0) BAD; behind(0, 3, 0) BAD; behind(0, 8, 0) BAD; behind(0, 9, 0) BAD; behind(0, -1, 0) BAD; behind(0, LOW, 0) BAD; behind(0, HIGH, 0) BAD");
        edge("Promise 20, PERIOD i", "group(0, 2) 2; period(2) 1; period(2) 2; period(2) 3; period(2) 4; behind(0, 1, 0) 2; behind(0, 1, 3) 2; behind(0, 3, 3) 1; behind(0, 1, 4) BAD; behind(0, 1, -1) BAD; behind(0, 1, LOW) BAD; behind(0, 1, HIGH) BAD; drop() 3; behind(0, 1, 3) BAD; drop() 2; behind(0, 1, 2) BAD; behind(0, 1, 1) 2");
        edge("Promise 20, PERIOD i with a HANDLE", "group(0, 2) 2; handles(1) 0; behind(0, 1, 0) BAD; period(2) 1; period(2) 2; behind(0, 1, 0) 2; behind(0, 3, 1) 1; behind(0, 1, 2) BAD; behind(3, 1, 1) 2; behind(4, 1, 1) BAD");
        edge("Promise 20, it is not NORMAL", "group(1, 3) 6; period(2) 1; period(2) 2; period(3) 3; behind(0, 9, 0) STATE; behind(0, 33, 2) STATE; behind(5, 17, 1) STATE; behind(0, 7, 0) 2; behind(0, 63, 2) 1; behind(0, 1, 2) 3");
        edge("Promise 20, BAD ahead of STATE", "group(1, 3) 6; period(2) 1; period(2) 2; period(3) 3; behind(6, 9, 0) BAD; behind(-1, 9, 0) BAD; behind(0, 9, 3) BAD; behind(0, 9, -1) BAD; behind(0, 11, 0) BAD; behind(HIGH, 9, HIGH) BAD; behind(0, 9, 2) STATE");
        edge("Promise 20, of nothing", "behind(0, 1, 0) BAD; behind(0, 1, -1) BAD; behind(1, 1, 0) BAD");
    }

    // ---- Promise 21

    private static void moves() {
        edge("Promise 21, MOVE i: 1 .. PERIODS less 1", "group(0, 2) 2; period(2) 1; period(2) 2; period(2) 3; period(2) 4; move(1111, 1) 1111; move(1111, 3) 1111; move(1111, 4) BAD; move(1111, 0) BAD; move(1111, -1) BAD; move(1111, LOW) BAD; move(1111, HIGH) BAD",
            "drop() 3; drop() 2; move(11, 1) 11; move(11, 2) BAD; move(11, 3) BAD");
        edge("Promise 21, MOVE i: none of one PERIOD or without any", "move(0, 1) BAD; move(0, 0) BAD; group(1, 3) 6; move(0, 1) BAD; handles(1) 0; period(3) 1; row(312) 2; move(312, 1) BAD; move(312, 0) BAD; move(312, 20) 512");
        edge("Promise 21, of ELEMENTS that there aren't", "group(0, 8) 8; handles(1) 0; move(1, 10) 1; move(1, 17) 1; move(1, 18) BAD; move(1, 19) BAD; move(1, 9) BAD; move(1, 22) BAD; move(1, 30) BAD; group(0, 7) 7; move(1, 16) 1; move(1, 17) BAD",
            "group(0, 1) 1; move(0, 10) 0; move(0, 11) BAD; move(0, 17) BAD; move(0, 20) 0; move(0, 21) 0; move(0, 22) BAD; move(0, 19) BAD");
        edge("Promise 21, it is none of a ROW", "group(1, 3) 6; period(2) 1; period(2) 2; period(3) 3; move(341, 10) 341; move(340, 10) BAD; move(342, 10) BAD; move(0, 10) BAD; move(-341, 10) BAD; move(1341, 10) BAD; move(34, 10) BAD; move(LOW, 10) BAD; move(HIGH, 10) BAD; move(341, 99) BAD; move(0, 99) BAD");
        edge("Promise 21, a ROW that isn't WHOLE", "group(1, 3) 6; period(2) 1; period(2) 2; row(33) 1; move(33, 1) 33; move(33, 11) 44; move(33, 14) 55; move(33, 15) 44; move(33, 16) BAD; drop() 1; drop() 0; row(0) 1; move(0, 15) 0; move(0, 16) BAD");
        edge("Promise 21, the last digits of four", "group(0, 5) 5; period(5) 1; period(5) 2; period(5) 3; period(5) 4; move(1144, 2) 1414; move(1144, 3) 1144; move(1234, 3) 1243; move(1234, 1) 2134; move(1234, 4) BAD");
        edge("Promise 21, with a HANDLE the first PERIOD is behind v", "group(0, 5) 5; handles(1) 0; period(5) 1; period(5) 2; move(1214, 1) 1241; move(1214, 2) BAD; move(1214, 20) 3214; move(1214, 21) 1314; move(14, 1) 41; move(4414, 20) 3414");
    }

    // ---- Promises 22 to 25

    private static void classes() {
        edge("Promise 22, what is 0 .. 2", "group(0, 5) 5; period(5) 1; period(5) 2; classes(0) 2; classes(1) 2; classes(2) 0; classes(3) BAD; classes(-1) BAD; classes(LOW) BAD; classes(HIGH) BAD");
        edge("Promise 22, 0 without any, NONE", "group(0, 2) 2; classes(0) 0; classes(1) 0; classes(2) NONE; classes(3) BAD; handles(1) 0; classes(0) 1; classes(1) 3; classes(2) 0; handles(0) 1; classes(0) 0; classes(1) 0; classes(2) NONE");
        edge("Promise 22, the first such one", "group(0, 7) 7; period(7) 1; period(7) 2; classes(0) 3; classes(1) 2; classes(2) 0; period(7) 3; classes(0) 8; classes(1) 6; classes(2) 1");
        edge("Promise 22, the last is the greatest", "group(0, 2) 2; handles(1) 0; period(2) 1; period(2) 2; classes(0) 2; classes(1) 3; classes(2) 1");
        edge("Promise 23, it is none of a MAP", "group(2, 2) 4; period(2) 1; period(2) 2; classOf(11) NONE; classOf(0) NONE; period(2) 3; classOf(123) 0; classOf(321) 0; classOf(111) NONE; classOf(122) NONE; classOf(-123) NONE; classOf(1230) NONE; classOf(LOW) NONE; classOf(HIGH) NONE");
        edge("Promise 23, of nothing", "classOf(0) 0; classOf(1) NONE; classOf(-1) NONE; group(0, 2) 2; classOf(0) NONE; handles(1) 0; classOf(0) NONE; classOf(1) 0; classOf(11) 0; classOf(12) NONE");
        edge("Promise 23, the first and the last MAP", "group(0, 7) 7; handles(1) 0; period(7) 1; period(7) 2; classOf(16) 0; classOf(15) NONE; classOf(6661) 3; classOf(6662) NONE; classOf(6666) NONE");
        edge("Promise 24, c", "group(0, 5) 5; period(5) 1; period(5) 2; member(0, 0) 14; member(1, 0) 23; member(2, 0) BAD; member(-1, 0) BAD; member(LOW, 0) BAD; member(HIGH, 0) BAD; member(2, -1) BAD; member(-1, -1) BAD; member(2, HIGH) BAD; member(-1, -2) BAD");
        edge("Promise 24, i: rising, how many (-1), no such one", "group(0, 5) 5; period(5) 1; period(5) 2; member(0, -1) 2; member(0, 0) 14; member(0, 1) 41; member(0, 2) NONE; member(0, -2) NONE; member(0, LOW) NONE; member(0, HIGH) NONE; member(1, 1) 32; member(1, 2) NONE");
        edge("Promise 24, without any CLASS", "group(0, 2) 2; member(0, -1) BAD; member(0, 0) BAD; member(-1, 0) BAD; member(0, 5) BAD");
        edge("Promise 24, of nothing", "member(0, -1) 1; member(0, 0) 0; member(0, 1) NONE; member(1, 0) BAD; handles(1) 0; member(0, -1) 1; member(0, 0) 0; member(0, 1) NONE");
        edge("Promise 24, the greatest", "group(0, 7) 7; handles(1) 0; period(7) 1; period(7) 2; member(3, -1) 96; member(3, 0) 116; member(3, 95) 6661; member(3, 96) NONE; member(0, -1) 2; member(0, 0) 16; member(0, 1) 61; member(5, -1) 96; member(6, -1) BAD");
    }

    private static void distances() {
        edge("Promise 25, 0: the same", "apart(0, 0) 0; group(0, 5) 5; period(5) 1; period(5) 2; apart(14, 14) 0; apart(41, 41) 0; apart(23, 23) 0");
        edge("Promise 25, NONE", "group(0, 5) 5; period(5) 1; period(5) 2; apart(14, 41) 1; apart(14, 23) NONE; apart(32, 41) NONE");
        edge("Promise 25, either is none of a MAP", "group(0, 5) 5; period(5) 1; period(5) 2; apart(14, 13) BAD; apart(13, 14) BAD; apart(13, 13) BAD; apart(0, 14) BAD; apart(14, 0) BAD; apart(-14, 14) BAD; apart(14, -14) BAD; apart(LOW, 14) BAD; apart(14, LOW) BAD; apart(HIGH, 14) BAD; apart(14, HIGH) BAD; apart(LOW, HIGH) BAD; apart(141, 14) BAD");
        edge("Promise 25, a ROW that isn't WHOLE", "group(2, 2) 4; period(2) 1; period(2) 2; row(11) 1; apart(11, 11) BAD; group(0, 2) 2; apart(11, 11) 0");
        edge("Promise 25, without any MAP", "group(0, 2) 2; apart(0, 0) BAD; apart(1, 1) BAD; handles(1) 0; apart(0, 0) BAD; apart(1, 1) 0; apart(1, 0) BAD; apart(0, 1) BAD");
        edge("Promise 25, asked again", "group(0, 3) 3; handles(1) 0; apart(1, 10) 3; apart(11, 1) 2; apart(1, 11) 1; classes(0) 1; classes(1) 8; classOf(22) 0; apart(1, 10) 3");
    }

    // ---- Promise 26

    private static void found() {
        edge("Promise 26, h is 0, 1", "found(0, 0, 0, -1) 1; found(1, 0, 1, -1) 1; found(2, 0, 0, -1) BAD; found(-1, 0, 0, -1) BAD; found(LOW, 0, 0, -1) BAD; found(HIGH, 0, 0, -1) BAD");
        edge("Promise 26, r is 0 .. 4 without a HANDLE", "group(0, 2) 2; found(0, 0, 0, -1) 0; found(0, 4, 1, -1) 1; found(0, 4, 1, 0) 2222; found(0, 5, 1, -1) BAD; found(0, -1, 0, -1) BAD; found(0, LOW, 0, -1) BAD; found(0, HIGH, 0, -1) BAD");
        edge("Promise 26, r is 0 .. 2 with a HANDLE", "group(0, 2) 2; found(1, 0, 1, -1) 1; found(1, 2, 2, -1) 1; found(1, 2, 2, 0) 22; found(1, 3, 2, -1) BAD; found(1, 4, 2, -1) BAD; found(1, -1, 1, -1) BAD; found(1, LOW, 1, -1) BAD; found(1, HIGH, 1, -1) BAD");
        edge("Promise 26, g is 0 .. 9", "found(0, 0, 0, -1) 1; found(0, 0, 9, -1) 0; found(0, 0, 10, -1) BAD; found(0, 0, -1, -1) BAD; found(0, 0, LOW, -1) BAD; found(0, 0, HIGH, -1) BAD; found(1, 2, 9, -1) 0; found(1, 2, 9, 0) NONE; found(0, 4, 9, 0) NONE; group(0, 8) 8; found(1, 2, 9, -1) 0; found(1, 2, 8, -1) 1; found(0, 4, 9, -1) 0");
        edge("Promise 26, GENUS NONE is no g", "group(0, 8) 8; found(0, 0, -1, -1) BAD; found(0, 1, 0, -1) 0; found(0, 0, 0, -1) 0");
        edge("Promise 26, how many (k -1), no such one", "group(0, 6) 6; found(0, 4, 3, -1) 2; found(0, 4, 3, 0) 2266; found(0, 4, 3, 1) 2336; found(0, 4, 3, 2) NONE; found(0, 4, 3, -2) NONE; found(0, 4, 3, LOW) NONE; found(0, 4, 3, HIGH) NONE");
        edge("Promise 26, BAD ahead of NONE", "found(2, 0, 0, 99) BAD; found(0, 5, 0, 99) BAD; found(0, 0, 10, 99) BAD; found(0, 0, 9, 99) NONE; found(0, 5, 10, HIGH) BAD; found(HIGH, HIGH, HIGH, HIGH) BAD; found(LOW, LOW, LOW, LOW) BAD");
        edge("Promise 26, 0 of no PERIODS", "found(0, 0, 0, 0) 0; found(0, 0, 0, 1) NONE; found(0, 0, 1, 0) NONE; found(1, 0, 1, 0) 0; found(1, 0, 1, 1) NONE; found(1, 0, 0, 0) NONE; group(0, 2) 2; found(0, 0, 0, 0) NONE; found(1, 0, 1, 0) 0; group(2, 3) 8; found(1, 0, 1, 0) NONE; found(1, 0, 1, -1) 0");
        edge("Promise 26, the least and the greatest PERIODS", "group(0, 2) 2; found(0, 2, 0, -1) 1; found(0, 2, 0, 0) 22; group(0, 8) 8; found(0, 2, 0, -1) 1; found(0, 2, 0, 0) 88; found(0, 4, 7, -1) 1; found(0, 4, 7, 0) 8888; found(1, 2, 8, 0) 88; found(0, 3, 3, -1) 1; found(0, 3, 3, 0) 488; found(0, 3, 2, 0) 288");
        edge("Promise 26, whatever THE SIGNATURE is", "group(0, 6) 6; handles(1) 0; period(5) 1; period(7) 2; found(0, 4, 3, -1) 2; found(1, 2, 4, 0) 22; count(3) 1; count(4) 2; periodOf(0) 5; periodOf(1) 7; map(-1) 0; genus() NONE");
    }

    // ---- Promises 27 to 31

    private static void shelves() {
        edge("Promise 27, SHELVES 0 .. 3", "keep(-1) BAD; keep(4) BAD; keep(LOW) BAD; keep(HIGH) BAD; count(5) 0; keep(0) 1; keep(3) 2; keep(4) BAD; keep(-1) BAD; count(5) 2");
        edge("Promise 27, full", "keep(0) 1; keep(1) 2; keep(2) 3; keep(3) 4; keep(3) 4; keep(0) 4; keep(4) BAD; count(5) 4; unlike() 1");
        edge("Promise 27, as they are: not as they become", "group(0, 7) 7; handles(1) 0; period(7) 1; keep(0) 1; period(7) 2; group(1, 3) 6; handles(0) 1; use(0) 7; count(3) 1; count(4) 1; periodOf(0) 7; map(-1) 0; period(7) 2; map(-1) 294; use(0) 7; count(4) 1");
        edge("Promise 27, over what it held", "keep(1) 1; group(2, 3) 8; period(4) 1; keep(1) 1; drop() 0; group(0, 1) 1; use(1) 8; count(1) 2; count(2) 3; periodOf(0) 4");
        edge("Promise 28, it is none", "keep(0) 1; keep(3) 2; use(4) BAD; use(-1) BAD; use(LOW) BAD; use(HIGH) BAD; use(0) 1; use(3) 1");
        edge("Promise 28, it is empty", "group(0, 5) 5; period(5) 1; use(0) STATE; use(3) STATE; keep(0) 1; use(1) STATE; empty(0) 1; use(0) STATE; count(0) 5; count(4) 1");
        edge("Promise 28, an empty SIGNATURE and a full one", "keep(0) 1; group(3, 1) 8; period(2) 1; period(4) 2; period(8) 3; period(3) 4; keep(1) 2; use(0) 1; count(4) 0; count(3) 0; periodOf(0) NONE; drop() STATE; map(-1) 1",
            "use(1) 8; count(1) 3; count(2) 1; count(4) 4; periodOf(0) 2; periodOf(1) 4; periodOf(2) 8; periodOf(3) 3; period(2) FULL; handles(1) FULL");
        edge("Promise 28, a full one with a HANDLE", "group(1, 4) 8; handles(1) 0; period(8) 1; period(2) 2; keep(2) 1; drop() 1; drop() 0; handles(0) 1; group(0, 1) 1; use(2) 8; count(1) 1; count(2) 4; count(3) 1; count(4) 2; periodOf(0) 8; periodOf(1) 2; period(2) FULL");
        edge("Promise 28, every FAMILY at its greatest n", "group(0, 8) 8; keep(0) 1; group(1, 4) 8; keep(1) 2; group(2, 3) 8; keep(2) 3; group(3, 1) 8; keep(3) 4",
            "use(0) 8; count(1) 0; count(2) 8; of(1, 0) 8; use(1) 8; count(1) 1; count(2) 4; times(4, 1) 7; use(2) 8; count(1) 2; count(2) 3; times(7, 7) 0; use(3) 8; count(1) 3; count(2) 1; times(1, 1) 4; unlike() 4");
        edge("Promise 29, 1; 0: it was", "empty(0) 0; empty(3) 0; keep(0) 1; keep(3) 2; empty(0) 1; empty(0) 0; empty(3) 1; empty(3) 0; empty(4) BAD; empty(-1) BAD; empty(LOW) BAD; empty(HIGH) BAD; count(5) 0; keep(3) 1");
        edge("Promise 29, of full SHELVES one", "keep(0) 1; keep(1) 2; keep(2) 3; keep(3) 4; empty(4) BAD; empty(2) 1; count(5) 3; use(2) STATE; use(1) 1; use(3) 1; like(3) 0; keep(2) 4");
    }

    private static void likes() {
        edge("Promise 30, it is none, it is empty", "like(0) STATE; like(3) STATE; like(4) BAD; like(-1) BAD; like(LOW) BAD; like(HIGH) BAD; keep(3) 1; like(3) 3; like(2) STATE; like(4) BAD; empty(3) 1; like(3) STATE");
        edge("Promise 30, itself, if no lesser one", "keep(0) 1; keep(3) 2; like(0) 0; like(3) 0; empty(0) 1; like(3) 3; keep(2) 2; like(3) 2; like(2) 2; keep(1) 3; like(3) 1");
        edge("Promise 30, the same of all: FAMILY", "group(0, 2) 2; keep(0) 1; group(1, 1) 2; keep(1) 2; group(2, 1) 2; keep(2) 3; like(1) 1; like(2) 2; unlike() 3; group(0, 1) 1; keep(0) 3; group(3, 1) 8; keep(3) 4; unlike() 4; like(3) 3");
        edge("Promise 30, the same of all: n", "group(0, 7) 7; keep(0) 1; group(0, 8) 8; keep(1) 2; like(1) 1; group(0, 7) 7; keep(2) 3; like(2) 0; unlike() 2");
        edge("Promise 30, the same of all: HANDLES", "period(2) 1; keep(0) 1; handles(1) 0; keep(1) 2; like(1) 1; handles(0) 1; keep(2) 3; like(2) 0; unlike() 2");
        edge("Promise 30, the same of all: PERIODS", "period(2) 1; keep(0) 1; period(2) 2; keep(1) 2; like(1) 1; drop() 1; drop() 0; keep(2) 3; like(2) 2; period(3) 1; keep(3) 4; like(3) 3; unlike() 4");
        edge("Promise 30, the same of all: the order of PERIODS", "period(2) 1; period(3) 2; keep(0) 1; drop() 1; drop() 0; period(3) 1; period(2) 2; keep(1) 2; like(1) 1; unlike() 2");
        edge("Promise 31, empty and full SHELVES", "unlike() 0; keep(3) 1; unlike() 1; keep(0) 2; unlike() 1; keep(1) 3; keep(2) 4; unlike() 1; group(0, 2) 2; keep(3) 4; unlike() 2; group(0, 3) 3; keep(2) 4; unlike() 3; group(0, 4) 4; keep(0) 4; unlike() 4; empty(1) 1; unlike() 3; empty(0) 1; empty(2) 1; empty(3) 1; unlike() 0");
    }

    // ---- Promises 32 to 34

    private static void images() {
        edge("Promise 33, there is none", "group(0, 5) 5; period(5) 1; keep(0) 1; back() STATE; count(0) 5; count(4) 1; count(5) 1; use(0) 5; back() STATE; image() 5; back() 5");
        edge("Promise 32, of a new object", "image() 1; group(0, 8) 8; handles(1) 0; period(2) 1; keep(0) 1; keep(3) 2; back() 1; count(0) 1; count(3) 0; count(4) 0; count(5) 0; use(0) STATE; use(3) STATE; map(-1) 1");
        edge("Promise 32, with full SHELVES", "keep(0) 1; group(0, 2) 2; keep(1) 2; group(0, 3) 3; keep(2) 3; group(0, 4) 4; keep(3) 4; image() 4; empty(0) 1; empty(1) 1; empty(2) 1; empty(3) 1; group(3, 1) 8; back() 4; count(5) 4; unlike() 4; use(0) 1; use(1) 2; use(2) 3; use(3) 4; count(5) 4");
        edge("Promise 32, with empty SHELVES", "group(2, 2) 4; image() 4; keep(0) 1; keep(1) 2; keep(2) 3; keep(3) 4; back() 4; count(5) 0; unlike() 0; use(2) STATE");
        edge("Promise 32, a full SIGNATURE without a HANDLE", "group(1, 3) 6; period(8) 1; period(7) 2; period(3) 3; period(2) 4; image() 6; drop() 3; drop() 2; handles(1) 0; back() 6; count(3) 0; count(4) 4; periodOf(0) 8; periodOf(1) 7; periodOf(2) 3; periodOf(3) 2; period(2) FULL; handles(1) FULL");
        edge("Promise 32, a full SIGNATURE with a HANDLE", "group(3, 1) 8; handles(1) 0; period(4) 1; period(8) 2; image() 8; handles(0) 1; period(2) 3; period(2) 4; group(0, 1) 1; back() 8; count(1) 3; count(3) 1; count(4) 2; periodOf(0) 4; periodOf(1) 8; periodOf(2) NONE");
        edge("Promise 33, as often as asked", "group(0, 3) 3; image() 3; back() 3; group(0, 4) 4; back() 3; back() 3; group(2, 1) 2; period(2) 1; back() 3; count(4) 0");
        edge("Promise 32, a later one is kept for the one ahead", "group(0, 3) 3; image() 3; group(0, 4) 4; period(4) 1; image() 4; group(0, 5) 5; back() 4; count(4) 1; back() 4; drop() 0; back() 4; count(4) 1");
        edge("Promise 33, what is done to SHELVES behind it", "keep(1) 1; image() 1; group(0, 6) 6; keep(1) 1; keep(2) 2; back() 1; count(5) 1; use(1) 1; group(0, 6) 6; keep(1) 1; use(1) 6; back() 1; use(1) 1; use(2) STATE");
        edge("Promise 33, what is asked of MAPS behind it", "group(0, 5) 5; period(5) 1; period(5) 2; image() 5; map(-1) 4; group(0, 7) 7; drop() 1; drop() 0; period(7) 1; period(7) 2; map(-1) 6; classes(0) 3; back() 5; map(-1) 4; classes(0) 2; map(0) 14; genus() 0; left(3, 31) 0");
    }

    private static void counts() {
        edge("Promise 34, what is 0 .. 5", "count(0) 1; count(5) 0; count(6) BAD; count(-1) BAD; count(LOW) BAD; count(HIGH) BAD; group(2, 3) 8; handles(1) 0; period(3) 1; keep(2) 1; keep(0) 2; count(0) 8; count(1) 2; count(2) 3; count(3) 1; count(4) 1; count(5) 2; count(6) BAD");
        edge("Promise 34, the most", "group(3, 1) 8; period(8) 1; period(8) 2; period(8) 3; period(8) 4; keep(0) 1; keep(1) 2; keep(2) 3; keep(3) 4; count(0) 8; count(1) 3; count(2) 1; count(3) 0; count(4) 4; count(5) 4");
    }

    // ---- What it is

    /** The 512th call is answered as the first ones, the dearest calls among all of them. */
    private static void lastCall() {
        edges++;
        Calls x = Calls.ofProgram();
        List<Call> start = read("group(0, 7) 7; handles(1) 0; period(7) 1");
        List<Call> round = read("period(7) 2; apart(116, 6661) 9; found(0, 4, 6, -1) 1; classes(1) 96; drop() 1");
        answers("What it is, 512 calls", "the program", x, start);
        int made = start.size();
        while (made + round.size() < 512) {
            answers("What it is, 512 calls", "the program", x, round);
            made += round.size();
        }
        answers("What it is, 512 calls", "the program", x, round.subList(0, 512 - made));
        Calls model = Calls.ofModel();
        answers("What it is, 512 calls", "the model", model, start);
        answers("What it is, 512 calls", "the model", model, round);
    }
}
