import java.util.Arrays;
import java.util.stream.Collectors;

/**
 * Runs of calls written as text, on a new object each, a call a line: 'set 0 3 1 -1 -> 2', or
 * 'drop 1 -> IllegalState' where the call throws. Beside the calls of the face:
 * 'makes K N' makes N OBJECTS of KIND K; 'ROW l x = ..', 'BACK l y = ..' and 'PATH = ..' look at the whole of it.
 */
final class Script {
    private final Due due;
    private final TwinLinks house = new TwinLinks();

    private Script(Due due) {
        this.due = due;
    }

    static void run(Due due, String name, String text) {
        Script script = new Script(due);
        int line = 0;
        for (String written : text.split("\n")) {
            line++;
            String step = written.strip();
            if (!step.isEmpty()) {
                script.step(name + ", line " + line + ": ", step);
            }
        }
    }

    private void step(String where, String step) {
        String[] sides = step.split(" *(->|=) *", 2);
        String[] words = sides[0].split(" +");
        switch (words[0]) {
            case "makes" -> makeSome(number(words, 1), number(words, 2));
            case "ROW" -> due.same(where + sides[0], sides[1], row(true, number(words, 1), number(words, 2)));
            case "BACK" -> due.same(where + sides[0], sides[1], row(false, number(words, 1), number(words, 2)));
            case "PATH" -> due.same(where + "PATH", sides[1], path());
            default -> due.same(where + sides[0], named(sides[1]), Due.outcome(() -> call(words)));
        }
    }

    private static String named(String answer) {
        return Character.isLetter(answer.charAt(0)) ? answer + "Exception" : answer;
    }

    private static int number(String[] words, int i) {
        return Integer.parseInt(words[i]);
    }

    private void makeSome(int kind, int howMany) {
        for (int n = 0; n < howMany; n++) {
            house.make(kind);
        }
    }

    private String row(boolean forth, int l, int x) {
        int[] row = new int[house.size(l, x, forth ? 0 : 1)];
        for (int i = 0; i < row.length; i++) {
            row[i] = forth ? house.at(l, x, i) : house.back(l, x, i);
        }
        return written(row);
    }

    private String path() {
        int[] path = new int[house.count(4)];
        for (int i = 0; i < path.length; i++) {
            path[i] = house.path(i);
        }
        return written(path);
    }

    private static String written(int[] numbers) {
        return Arrays.stream(numbers).mapToObj(Integer::toString).collect(Collectors.joining(" "));
    }

    private int call(String[] words) {
        int[] n = new int[5];
        for (int i = 1; i < words.length; i++) {
            n[i] = words[i].equals("true") ? 1 : words[i].equals("false") ? 0 : number(words, i);
        }
        return switch (words[0]) {
            case "link" -> house.link(n[1], n[2], n[3], n[4]);
            case "make" -> house.make(n[1]);
            case "set" -> house.set(n[1], n[2], n[3], n[4]);
            case "cut" -> house.cut(n[1], n[2], n[3]);
            case "drop" -> house.drop(n[1]);
            case "copy" -> house.copy(n[1]);
            case "alike" -> house.alike(n[1], n[2]) ? 1 : 0;
            case "at" -> house.at(n[1], n[2], n[3]);
            case "back" -> house.back(n[1], n[2], n[3]);
            case "ask" -> house.ask(n[1], n[2]);
            case "size" -> house.size(n[1], n[2], n[3]);
            case "way" -> house.way(n[1], n[2]);
            case "path" -> house.path(n[1]);
            case "begin" -> house.begin();
            case "end" -> house.end(n[1] == 1);
            case "count" -> house.count(n[1]);
            default -> throw new AssertionError("no such call: " + words[0]);
        };
    }
}
