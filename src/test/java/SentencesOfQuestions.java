/** The sentences of promises 8 to 14 and 17: what only looks at the house. */
final class SentencesOfQuestions {
    private final Sentences document;

    private SentencesOfQuestions(Sentences document) {
        this.document = document;
    }

    static void all(Sentences document) {
        SentencesOfQuestions promises = new SentencesOfQuestions(document);
        promises.alike();
        promises.alikeToTheEnd();
        promises.alikeByManyWays();
        promises.at();
        promises.back();
        promises.ask();
        promises.askOwners();
        promises.askDeep();
        promises.askNear();
        promises.size();
        promises.way();
        promises.wayLeast();
        promises.path();
        promises.pathStays();
        promises.count();
        promises.countFull();
    }

    private void alike() {
        document.says("of one KIND, and for each LINK that OWNS both HAVE as many, each of these ALIKE, in order", """
            link 0 0 2 1 -> 0
            link 0 1 1 1 -> 1
            link 0 0 2 0 -> 2
            link 0 0 2 2 -> 3
            makes 0 6
            makes 1 4
            alike 0 1 -> 1
            alike 0 0 -> 1
            alike 0 6 -> 0
            alike 6 0 -> 0
            alike 6 7 -> 1
            set 2 0 5 -1 -> 1
            set 3 0 5 -1 -> 1
            alike 0 1 -> 1
            set 0 0 2 -1 -> 1
            alike 0 1 -> 0
            alike 1 0 -> 0
            set 0 1 2 -1 -> 1
            alike 0 1 -> 1
            set 0 0 3 -1 -> 2
            alike 0 1 -> 0
            set 0 1 4 -1 -> 2
            alike 0 1 -> 1
            set 1 3 6 -1 -> 1
            alike 0 1 -> 0
            set 1 4 7 -1 -> 1
            alike 0 1 -> 1
            set 0 1 4 0 -> 2
            alike 0 1 -> 0
            set 0 0 3 0 -> 2
            alike 0 1 -> 1
            alike 0 10 -> NoSuchElement
            alike 10 0 -> NoSuchElement
            alike -1 0 -> NoSuchElement
            alike LEAST MOST -> NoSuchElement
            """, """
            link 0 0 2 1 -> 0
            link 0 0 2 1 -> 1
            makes 0 7
            set 0 0 1 -1 -> 1
            set 1 2 1 -1 -> 1
            alike 0 2 -> 0
            set 1 0 1 -1 -> 1
            set 0 2 3 -1 -> 1
            alike 0 2 -> 1
            set 0 4 0 -1 -> 1
            alike 4 0 -> 0
            alike 0 4 -> 0
            """);
    }

    private void alikeToTheEnd() {
        StringBuilder two = new StringBuilder("link 0 0 1 1 -> 0\nlink 0 1 1 1 -> 1\nmakes 0 98\nmake 1 -> 98\n");
        for (int x = 0; x < 96; x++) {
            two.append("set 0 %d %d -1 -> 1%n".formatted(x, x + 2));
        }
        document.says("each of these ALIKE, in order", two + """
            alike 0 1 -> 1
            alike 96 97 -> 1
            alike 0 2 -> 0
            set 1 97 98 -1 -> 1
            alike 0 1 -> 0
            alike 94 95 -> 0
            cut 1 97 98 -> 1
            alike 0 1 -> 1
            """, "link 0 0 2 1 -> 0\nmakes 0 30\n" + twoFullRows() + """
            alike 0 1 -> 1
            set 0 13 28 -1 -> 1
            alike 0 1 -> 0
            set 0 25 28 -1 -> 1
            alike 0 1 -> 1
            set 0 1 25 0 -> 12
            alike 0 1 -> 0
            cut 0 0 13 -> 1
            alike 0 1 -> 0
            cut 0 1 25 -> 1
            alike 0 1 -> 1
            """);
    }

    /** So many ways lead down that a pair of OBJECTS may come up again and again before the last one does. */
    private void alikeByManyWays() {
        StringBuilder ladder = new StringBuilder(Script.chain(48));
        for (int x = 0; x < 46; x++) {
            ladder.append("set 0 %d %d 0 -> 2%n".formatted(x, x + 2));
        }
        document.says("Whether x and y are ALIKE", ladder + """
            copy 0 -> 48
            make 0 -> 96
            alike 0 48 -> 1
            alike 0 49 -> 0
            set 0 95 96 -1 -> 1
            alike 0 48 -> 0
            alike 48 0 -> 0
            set 0 47 96 -1 -> 1
            alike 0 48 -> 1
            """);
    }

    private static String twoFullRows() {
        StringBuilder all = new StringBuilder();
        for (int n = 1; n <= 12; n++) {
            all.append("set 0 0 %d -1 -> %d%nset 0 1 %d -1 -> %d%n".formatted(n + 1, n, n + 13, n));
        }
        return all.toString();
    }

    private void at() {
        document.says("The NUMBER of what x HAS by l in place i; there is none: IndexOutOfBoundsException.", """
            link 0 1 1 0 -> 0
            make 0 -> 0
            makes 1 13
            at 0 0 0 -> IndexOutOfBounds
            at 0 0 -1 -> IndexOutOfBounds
            """ + Script.lines("set 0 0 %d 0 -> %d", 1, 13) + """
            at 0 0 0 -> 12
            at 0 0 1 -> 11
            at 0 0 5 -> 7
            at 0 0 6 -> 6
            at 0 0 11 -> 1
            at 0 0 12 -> IndexOutOfBounds
            at 0 0 -1 -> IndexOutOfBounds
            at 0 0 LEAST -> IndexOutOfBounds
            at 0 0 MOST -> IndexOutOfBounds
            cut 0 0 1 -> 1
            at 0 0 10 -> 2
            at 0 0 11 -> IndexOutOfBounds
            at 1 0 0 -> IllegalArgument
            at -1 0 0 -> IllegalArgument
            at LEAST 0 0 -> IllegalArgument
            at MOST 0 0 -> IllegalArgument
            at 0 14 0 -> NoSuchElement
            at 0 -1 0 -> NoSuchElement
            at 0 1 0 -> ClassCast
            """);
    }

    private void back() {
        document.says("The NUMBER of the i-th that HAS y by l; likewise.", """
            link 0 1 2 0 -> 0
            link 0 1 0 0 -> 1
            makes 0 13
            make 1 -> 13
            back 0 13 0 -> IndexOutOfBounds
            back 0 13 -1 -> IndexOutOfBounds
            """ + Script.lines("set 0 %d 13 -1 -> 1", 1, 13) + """
            back 0 13 0 -> 1
            back 0 13 5 -> 6
            back 0 13 6 -> 7
            back 0 13 11 -> 12
            back 0 13 12 -> IndexOutOfBounds
            back 0 13 -1 -> IndexOutOfBounds
            back 0 13 LEAST -> IndexOutOfBounds
            back 0 13 MOST -> IndexOutOfBounds
            set 1 5 13 -1 -> 1
            back 1 13 0 -> 5
            back 1 13 1 -> IndexOutOfBounds
            drop 12 -> 1
            back 0 13 11 -> IndexOutOfBounds
            back 2 13 0 -> IllegalArgument
            back -1 13 0 -> IllegalArgument
            back LEAST 13 0 -> IllegalArgument
            back MOST 13 0 -> IllegalArgument
            back 0 14 0 -> NoSuchElement
            back 0 -1 0 -> NoSuchElement
            back 0 0 0 -> ClassCast
            """);
    }

    private void ask() {
        document.says("what 0: its KIND", """
            make 7 -> 0
            ask 0 0 -> 7
            ask 0 1 -> 0
            ask 0 2 -> 0
            ask 0 3 -> 0
            ask 0 4 -> 0
            ask 0 5 -> 0
            ask 0 6 -> IllegalArgument
            ask 0 -1 -> IllegalArgument
            ask 0 LEAST -> IllegalArgument
            ask 0 MOST -> IllegalArgument
            ask 1 0 -> NoSuchElement
            ask -1 0 -> NoSuchElement
            """);
    }

    /** One OBJECT OWNS the 99 others, or they it: 10 LINKS with rows of at most 12 hold so many. */
    private static String allByTenLinks(boolean forth) {
        StringBuilder all = new StringBuilder(Script.lines("link 0 0 2 1 -> %d", 0, 10) + "makes 0 100\n");
        for (int n = 0; n < 99; n++) {
            int l = n / 10;
            int howMany = forth ? n % 10 + 1 : 1;
            int x = forth ? 0 : n + 1;
            int y = forth ? n + 1 : 0;
            all.append("set %d %d %d -1 -> %d%n".formatted(l, x, y, howMany));
        }
        return all.toString();
    }

    private void askOwners() {
        document.says("1: how many OWNERS (each once)", allByTenLinks(false) + """
            ask 0 1 -> 99
            ask 0 5 -> 99
            ask 0 3 -> 1
            ask 0 4 -> 0
            ask 0 2 -> 0
            set 9 1 0 -1 -> 1
            ask 0 1 -> 99
            cut 0 1 0 -> 1
            ask 0 1 -> 99
            cut 9 1 0 -> 1
            ask 0 1 -> 98
            ask 1 4 -> 0
            """);
        document.says("4: how many OBJECTS it OWNS (each once)", allByTenLinks(true) + """
            ask 0 4 -> 99
            ask 0 2 -> 99
            ask 0 5 -> 99
            ask 0 1 -> 0
            set 9 0 1 -1 -> 10
            ask 0 4 -> 99
            cut 0 0 1 -> 1
            ask 0 4 -> 99
            cut 9 0 1 -> 1
            ask 0 4 -> 98
            ask 0 2 -> 98
            """);
    }

    private void askDeep() {
        document.says("2: how many are UNDER it, 3: how deep it is"
                + " (0 without OWNERS, else 1 more than the deepest OWNER)", Script.chain(100) + """
            ask 0 2 -> 99
            ask 0 3 -> 0
            ask 1 3 -> 1
            ask 99 3 -> 99
            ask 99 2 -> 0
            set 0 0 99 -1 -> 2
            ask 99 3 -> 99
            cut 0 98 99 -> 1
            ask 99 3 -> 1
            cut 0 0 99 -> 1
            ask 99 3 -> 0
            """, """
            link 0 0 2 1 -> 0
            link 0 0 2 0 -> 1
            makes 0 5
            set 1 0 4 -1 -> 1
            ask 4 3 -> 0
            set 0 0 4 -1 -> 1
            set 0 1 2 -1 -> 1
            set 0 2 4 -1 -> 1
            ask 4 3 -> 2
            set 0 3 0 -1 -> 1
            ask 4 3 -> 2
            set 0 4 1 -1 -> UnsupportedOperation
            set 0 2 3 -1 -> 2
            ask 4 3 -> 4
            ask 1 2 -> 4
            """);
    }

    private void askNear() {
        document.says("5: how many OBJECTS it HAS or IS HAD by, by any LINK (each once)", """
            link 0 0 2 0 -> 0
            link 0 0 0 2 -> 1
            link 0 0 1 1 -> 2
            makes 0 5
            ask 0 5 -> 0
            set 0 0 1 -1 -> 1
            set 1 0 1 -1 -> 1
            set 0 1 0 -1 -> 1
            ask 0 5 -> 1
            ask 1 5 -> 1
            set 2 2 0 -1 -> 1
            set 1 3 0 -1 -> 1
            ask 0 5 -> 3
            set 0 0 0 -1 -> 2
            ask 0 5 -> 4
            set 1 0 0 -1 -> 1
            ask 0 5 -> 3
            ask 3 5 -> 0
            ask 4 5 -> 0
            """, allByTenLinks(true).replace("link 0 0 2 1 -> 9", "link 0 0 2 0 -> 9") + """
            ask 0 5 -> 99
            set 9 0 0 -1 -> 10
            ask 0 5 -> 100
            """);
    }

    private void size() {
        document.says("How many x HAS by l (side 0), by how many it IS HAD (side 1).", """
            link 0 0 2 0 -> 0
            link 0 1 1 0 -> 1
            makes 0 14
            make 1 -> 14
            size 0 0 0 -> 0
            size 0 0 1 -> 0
            """ + Script.lines("set 0 0 %d -1 -> %d\nsize 0 0 0 -> %d", 1, 13)
            + Script.lines("set 0 %d 13 -1 -> 1\nsize 0 13 1 -> %d", 1, 13) + """
            size 0 13 0 -> 0
            size 0 0 1 -> 0
            size 0 1 0 -> 1
            size 0 1 1 -> 1
            size 0 0 -1 -> IllegalArgument
            size 0 0 2 -> IllegalArgument
            size 0 0 LEAST -> IllegalArgument
            size 0 0 MOST -> IllegalArgument
            size 2 0 0 -> IllegalArgument
            size -1 0 0 -> IllegalArgument
            size 0 15 0 -> NoSuchElement
            size 0 -1 0 -> NoSuchElement
            size 1 0 0 -> 0
            size 1 0 1 -> ClassCast
            size 1 14 0 -> ClassCast
            size 1 14 1 -> 0
            size 0 14 0 -> ClassCast
            size 0 14 1 -> ClassCast
            """);
    }

    private void way() {
        document.says("0 if they are the same, -1 without. PATH is that way (the least as above; nothing without).", """
            link 0 0 2 1 -> 0
            link 0 0 2 0 -> 1
            makes 0 3
            way 0 0 -> 0
            PATH = 0
            way 0 1 -> -1
            PATH =
            path 0 -> IndexOutOfBounds
            set 1 0 1 -1 -> 1
            way 0 1 -> -1
            set 0 0 1 -1 -> 1
            way 0 1 -> 1
            PATH = 0 1
            way 1 0 -> -1
            PATH =
            way 2 2 -> 0
            PATH = 2
            way 2 3 -> NoSuchElement
            way 3 2 -> NoSuchElement
            way 3 3 -> NoSuchElement
            way -1 -1 -> NoSuchElement
            way LEAST 0 -> NoSuchElement
            way 0 MOST -> NoSuchElement
            PATH = 2
            """, Script.chain(100) + """
            way 0 99 -> 99
            count 4 -> 100
            path 0 -> 0
            path 99 -> 99
            path 100 -> IndexOutOfBounds
            way 99 0 -> -1
            count 4 -> 0
            way 98 99 -> 1
            PATH = 98 99
            """);
    }

    private void wayLeast() {
        document.says("The fewest steps from x to y, each from an OBJECT to one that it OWNS", """
            link 0 0 2 1 -> 0
            link 0 0 1 1 -> 1
            makes 0 10
            set 0 9 8 -1 -> 1
            set 0 9 5 -1 -> 2
            set 1 5 7 -1 -> 1
            set 0 5 6 -1 -> 1
            set 0 8 1 -1 -> 1
            set 0 1 0 -1 -> 1
            set 0 7 0 -1 -> 1
            set 0 6 0 -1 -> 1
            way 9 0 -> 3
            PATH = 9 5 6 0
            cut 0 9 5 -> 1
            way 9 0 -> 3
            PATH = 9 8 1 0
            set 0 8 0 -1 -> 2
            way 9 0 -> 2
            PATH = 9 8 0
            set 1 9 0 -1 -> 1
            way 9 0 -> 1
            PATH = 9 0
            """);
    }

    private void path() {
        document.says("The i-th OBJECT of PATH; there is none: IndexOutOfBoundsException.", """
            path 0 -> IndexOutOfBounds
            path -1 -> IndexOutOfBounds
            make 0 -> 0
            path 0 -> IndexOutOfBounds
            way 0 0 -> 0
            path 0 -> 0
            path 1 -> IndexOutOfBounds
            path -1 -> IndexOutOfBounds
            path LEAST -> IndexOutOfBounds
            path MOST -> IndexOutOfBounds
            """, Script.chain(100) + """
            way 0 99 -> 99
            path 0 -> 0
            path 1 -> 1
            path 98 -> 98
            path 99 -> 99
            path 100 -> IndexOutOfBounds
            path -1 -> IndexOutOfBounds
            way 1 99 -> 98
            path 98 -> 99
            path 99 -> IndexOutOfBounds
            """);
    }

    private void pathStays() {
        document.says("A call that throws changes nothing, but PATH, if that is told.", """
            link 0 0 2 1 -> 0
            link 0 1 2 2 -> 1
            makes 0 3
            make 1 -> 3
            set 0 0 1 -1 -> 1
            set 0 1 2 -1 -> 1
            set 1 2 3 -1 -> 1
            way 0 2 -> 2
            set 0 0 2 9 -> IndexOutOfBounds
            set 0 0 0 -2 -> IllegalArgument
            set 1 3 3 -1 -> ClassCast
            drop 9 -> NoSuchElement
            copy 9 -> NoSuchElement
            way 0 9 -> NoSuchElement
            PATH = 0 1 2
            set 0 2 1 -1 -> UnsupportedOperation
            PATH = 1 2
            drop 1 -> IllegalState
            PATH = 1 2 3
            set 0 0 2 -1 -> 2
            cut 0 0 2 -> 1
            make 0 -> 4
            copy 0 -> 5
            alike 0 5 -> 1
            ask 0 2 -> 2
            ask 2 3 -> 2
            begin -> 1
            drop 4 -> 1
            end false -> 0
            PATH = 1 2 3
            cut 1 2 3 -> 1
            drop 0 -> 3
            PATH = 1 2 3
            """);
    }

    private void count() {
        document.says("`int count(int what) throws IllegalArgumentException`: what 0: LINKS", """
            count -1 -> IllegalArgument
            count 6 -> IllegalArgument
            count LEAST -> IllegalArgument
            count MOST -> IllegalArgument
            count 0 -> 0
            count 5 -> 0
            """);
        document.says("5: how many pairs x HAS y there are, over all LINKS", """
            link 0 0 2 0 -> 0
            link 0 0 0 0 -> 1
            makes 0 3
            set 0 0 1 -1 -> 1
            set 0 0 1 0 -> 1
            count 5 -> 1
            set 1 0 1 -1 -> 1
            count 5 -> 2
            set 0 1 0 -1 -> 1
            set 0 0 0 -1 -> 2
            count 5 -> 4
            set 1 2 2 -1 -> 1
            count 5 -> 5
            set 1 0 2 -1 -> 1
            count 5 -> 4
            cut 0 2 0 -> 0
            count 5 -> 4
            begin -> 1
            drop 0 -> 1
            count 5 -> 0
            end false -> 0
            count 5 -> 4
            """);
    }

    private void countFull() {
        StringBuilder all = new StringBuilder("link 0 0 2 1 -> 0\nlink 0 0 2 0 -> 1\nmakes 0 12\n");
        all.append(Script.lines("set 0 0 %d -1 -> %d", 1, 12));
        for (int x = 0; x < 12; x++) {
            for (int y = 0; y < 12; y++) {
                all.append("set 1 %d %d -1 -> %d%n".formatted(x, y, y + 1));
            }
        }
        for (int n = 1; n < 8; n++) {
            all.append("copy 0 -> %d%n".formatted(12 * n));
        }
        document.says("what 0: LINKS, 1: OBJECTS that are there, 2: NUMBERS that were given, 3: LEVELS,"
                + " 4: how many OBJECTS PATH has", all + """
            count 0 -> 2
            count 1 -> 96
            count 2 -> 96
            count 5 -> 1240
            copy 0 -> IllegalState
            drop 84 -> 12
            count 1 -> 84
            count 2 -> 96
            count 5 -> 1085
            """ + Script.lines("begin -> %d\ncount 3 -> %d", 1, 13) + Script.lines("link 0 0 2 0 -> %d", 2, 10) + """
            count 0 -> 10
            way 0 11 -> 1
            count 4 -> 2
            end false -> 11
            count 3 -> 11
            """);
    }
}
