import java.util.ArrayList;
import java.util.Arrays;
import java.util.List;
import java.util.stream.Collectors;

/**
 * Runs of calls written as text, on a new object each, a call a line: 'set 0 3 1 -1 -> 2', or
 * 'drop 1 -> IllegalState' where the call throws; LEAST and MOST are the ends of int. Beside the calls of the face:
 * 'makes K N' makes N OBJECTS of KIND K; 'ROW l x = ..', 'BACK l y = ..' and 'PATH = ..' look at the whole of it.
 *
 * <p>Of itself it looks at two things more. Behind each call that is due to throw, all that the face can tell is as it
 * was before, but PATH where the document tells of it. And at the end of a run both sides of each LINK tell the same.
 * Both looks take calls of their own, so that the object goes beyond its 512: the written calls alone keep to them.
 */
final class Script {
    private static final int CALLS = 512;
    private static final int MAX_ROW = 12;

    private final Due due;
    private final TwinLinks house = new TwinLinks();
    private final List<Integer> forms = new ArrayList<>();
    private int calls;

    private Script(Due due) {
        this.due = due;
    }

    static void run(Due due, String name, String text) {
        Script script = new Script(due);
        int line = 0;
        for (String written : text.split("\n")) {
            line++;
            String step = written.strip();
            if (!step.isEmpty()) {
                script.step(name + ", line " + line + ": " + step + ": ", step);
            }
        }
        due.same(name + ": no more calls than the document allows", true, script.calls <= CALLS);
        script.lookAtBothSides(name + ": ");
    }

    /** A line for each number from the first on, below the last; %d stands for the number. */
    static String lines(String form, int first, int above) {
        StringBuilder all = new StringBuilder();
        for (int n = first; n < above; n++) {
            all.append(form.replace("%d", Integer.toString(n))).append('\n');
        }
        return all.toString();
    }

    /** OBJECTS 0, 1, .. of KIND 0, each OWNING the next by LINK 0. */
    static String chain(int length) {
        StringBuilder all = new StringBuilder("link 0 0 2 1 -> 0\nmakes 0 " + length + "\n");
        for (int x = 0; x < length - 1; x++) {
            all.append("set 0 " + x + " " + (x + 1) + " -1 -> 1\n");
        }
        return all.toString();
    }

    private void step(String where, String step) {
        String[] sides = step.split(" *(->|=) *", 2);
        String[] words = sides[0].split(" +");
        switch (words[0]) {
            case "makes" -> makeSome(number(words[1]), number(words[2]));
            case "ROW" -> due.same(where, sides[1], row(true, number(words[1]), number(words[2])));
            case "BACK" -> due.same(where, sides[1], row(false, number(words[1]), number(words[2])));
            case "PATH" -> due.same(where, sides[1], path());
            default -> callOfTheFace(where, words, sides[1]);
        }
    }

    private void callOfTheFace(String where, String[] words, String wanted) {
        calls++;
        boolean refused = Character.isLetter(wanted.charAt(0));
        if (!refused) {
            due.same(where, wanted, Due.outcome(() -> call(words)));
            return;
        }
        boolean tellsPath = words[0].equals("set") && wanted.equals("UnsupportedOperation")
            || words[0].equals("drop") && wanted.equals("IllegalState");
        String before = all(!tellsPath);
        due.same(where, wanted + "Exception", Due.outcome(() -> call(words)));
        due.same(where + "the state behind it", before, all(!tellsPath));
    }

    private static int number(String word) {
        return switch (word) {
            case "LEAST" -> Integer.MIN_VALUE;
            case "MOST" -> Integer.MAX_VALUE;
            case "true" -> 1;
            case "false" -> 0;
            default -> Integer.parseInt(word);
        };
    }

    private void makeSome(int kind, int howMany) {
        for (int n = 0; n < howMany; n++) {
            calls++;
            house.make(kind);
        }
    }

    private String all(boolean withPath) {
        StringBuilder all = new StringBuilder();
        for (int what : new int[] {0, 1, 2, 3, 5}) {
            all.append(house.count(what)).append(' ');
        }
        all.append(withPath ? "path " + path() : "").append('\n');
        for (int x = 0; x < house.count(2); x++) {
            if (isThere(x)) {
                all.append(allOf(x)).append('\n');
            }
        }
        return all.toString();
    }

    private boolean isThere(int x) {
        return !Due.outcome(() -> house.ask(x, 0)).equals("NoSuchElementException");
    }

    private String allOf(int x) {
        StringBuilder all = new StringBuilder("of " + x + ":");
        for (int what = 0; what < 6; what++) {
            all.append(' ').append(house.ask(x, what));
        }
        for (int l = 0; l < house.count(0); l++) {
            all.append(" by ").append(l).append(": ").append(rowIfAny(true, l, x));
            all.append(" / ").append(rowIfAny(false, l, x));
        }
        return all.toString();
    }

    private boolean mayStand(boolean forth, int l, int x) {
        return !Due.outcome(() -> house.size(l, x, forth ? 0 : 1)).equals("ClassCastException");
    }

    private String rowIfAny(boolean forth, int l, int x) {
        return mayStand(forth, l, x) ? row(forth, l, x) : "";
    }

    private void lookAtBothSides(String where) {
        List<String> forth = new ArrayList<>();
        List<String> back = new ArrayList<>();
        for (int x = 0; x < house.count(2); x++) {
            for (int l = 0; isThere(x) && l < house.count(0); l++) {
                boolean single = forms.get(l) == 0;
                boolean shared = forms.get(l) == 2;
                addPairs(where, true, l, x, single ? 1 : MAX_ROW, forth);
                addPairs(where, false, l, x, shared ? MAX_ROW : 1, back);
            }
        }
        due.same(where + "pairs", house.count(5), forth.size());
        due.same(where + "each pair once", forth.size(), (int) forth.stream().distinct().count());
        due.same(where + "both sides", forth.stream().sorted().toList(), back.stream().sorted().toList());
    }

    private void addPairs(String where, boolean forth, int l, int x, int most, List<String> into) {
        String[] row = rowIfAny(forth, l, x).split(" ");
        boolean empty = row[0].isEmpty();
        due.same(where + "a row of " + x + " by " + l + " is not too long", true, empty || row.length <= most);
        for (int i = 0; i < row.length && !empty; i++) {
            into.add(l + ": " + (forth ? x + " has " + row[i] : row[i] + " has " + x));
        }
    }

    private String row(boolean forth, int l, int x) {
        int[] row = new int[house.size(l, x, forth ? 0 : 1)];
        for (int i = 0; i < row.length; i++) {
            row[i] = forth ? house.at(l, x, i) : house.back(l, x, i);
        }
        return written(row);
    }

    private String path() {
        int[] path = new int[house.count(4)];
        for (int i = 0; i < path.length; i++) {
            path[i] = house.path(i);
        }
        return written(path);
    }

    private static String written(int[] numbers) {
        return Arrays.stream(numbers).mapToObj(Integer::toString).collect(Collectors.joining(" "));
    }

    private int call(String[] words) {
        int[] n = new int[5];
        for (int i = 1; i < words.length; i++) {
            n[i] = number(words[i]);
        }
        return switch (words[0]) {
            case "link" -> tell(n[1], n[2], n[3], n[4]);
            case "make" -> house.make(n[1]);
            case "set" -> house.set(n[1], n[2], n[3], n[4]);
            case "cut" -> house.cut(n[1], n[2], n[3]);
            case "drop" -> house.drop(n[1]);
            case "copy" -> house.copy(n[1]);
            case "alike" -> house.alike(n[1], n[2]) ? 1 : 0;
            case "at" -> house.at(n[1], n[2], n[3]);
            case "back" -> house.back(n[1], n[2], n[3]);
            case "ask" -> house.ask(n[1], n[2]);
            case "size" -> house.size(n[1], n[2], n[3]);
            case "way" -> house.way(n[1], n[2]);
            case "path" -> house.path(n[1]);
            case "begin" -> house.begin();
            case "end" -> house.end(n[1] == 1);
            case "count" -> house.count(n[1]);
            default -> throw new AssertionError("no such call: " + words[0]);
        };
    }
    private int tell(int a, int b, int form, int rule) {
        int l = house.link(a, b, form, rule);
        forms.add(form);
        return l;
    }
}
