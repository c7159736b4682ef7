/** The sentences of 'What it is' and 'Terms'. */
final class SentencesOfTerms {
    private final Sentences document;

    private SentencesOfTerms(Sentences document) {
        this.document = document;
    }

    static void all(Sentences document) {
        SentencesOfTerms terms = new SentencesOfTerms(document);
        terms.house();
        terms.calls();
        terms.numbers();
        terms.kinds();
        terms.objects();
        terms.links();
        terms.forms();
        terms.rules();
        terms.rowsOfForms();
        terms.rows();
        terms.bothSides();
        terms.owners();
        terms.under();
        terms.ring();
        terms.ringPath();
        terms.levels();
        terms.levelsTakenBack();
        terms.levelsWithinOneAnother();
        terms.refusedCallsInLevels();
    }

    private void house() {
        document.says("A house of links that are told on both sides: one to one, one to many, many to many, in rows",
            formRun(0));
        document.says("owners whose parts go with them, links that bar a drop, moves, copies of all that is owned,"
                + " and levels that are taken back.", """
            link 0 1 1 1 -> 0
            link 1 2 2 2 -> 1
            makes 0 2
            makes 1 2
            make 2 -> 4
            set 0 0 2 -1 -> 1
            set 0 0 3 -1 -> 2
            set 1 3 4 -1 -> 1
            drop 0 -> IllegalState
            PATH = 0 3 4
            copy 0 -> 5
            ROW 0 5 = 6 7
            ROW 1 7 = 4
            BACK 1 4 = 3 7
            set 0 1 3 -1 -> 1
            ROW 0 0 = 2
            set 0 0 3 0 -> 2
            ROW 0 0 = 3 2
            begin -> 1
            cut 1 3 4 -> 1
            drop 0 -> 3
            count 1 -> 5
            end false -> 0
            count 1 -> 8
            ROW 0 0 = 3 2
            ROW 1 3 = 4
            BACK 1 4 = 3 7
            """);
    }

    private void calls() {
        StringBuilder makesAndDrops = new StringBuilder("link 0 0 2 1 -> 0\n");
        for (int n = 0; n < 255; n++) {
            makesAndDrops.append("make 9 -> %d%ndrop %d -> 1%n".formatted(n, n));
        }
        StringBuilder copiesAndDrops = new StringBuilder("link 0 0 1 1 -> 0\nmakes 0 50\n");
        for (int n = 0; n < 49; n++) {
            copiesAndDrops.append("set 0 %d %d -1 -> 1%n".formatted(n, n + 1));
        }
        for (int n = 0; n < 206; n++) {
            copiesAndDrops.append("copy 0 -> %d%ndrop %d -> 50%n".formatted(50 + 50 * n, 50 + 50 * n));
        }
        document.says("An object is used for at most 512 calls after it has been made;"
                + " what later calls answer is free.",
            makesAndDrops + "count 2 -> 255\n", copiesAndDrops.toString(),
            "begin -> 1\nend false -> 0\n".repeat(256),
            Script.lines("begin -> %d", 1, 13) + "begin -> IllegalState\n".repeat(499) + "end true -> 11\n",
            "link 0 0 2 0 -> 0\nmakes 0 2\n" + "set 0 0 1 -1 -> 1\ncut 0 0 1 -> 1\n".repeat(254) + "cut 0 0 1 -> 0\n");
    }

    private void numbers() {
        document.says("OBJECTS have NUMBERS, 0, 1, .. as they are made, never twice", """
            make 5 -> 0
            make 10 -> IllegalArgument
            make 5 -> 1
            drop 1 -> 1
            make 5 -> 2
            drop 0 -> 1
            drop 2 -> 1
            count 1 -> 0
            make 5 -> 3
            begin -> 1
            make 5 -> 4
            copy 3 -> 5
            end false -> 0
            make 5 -> 6
            copy 3 -> 7
            begin -> 1
            drop 3 -> 1
            end false -> 0
            make 5 -> 8
            ask 4 0 -> NoSuchElement
            ask 5 0 -> NoSuchElement
            count 1 -> 4
            count 2 -> 9
            """, """
            makes 0 3
            drop 2 -> 1
            ask 1 0 -> 0
            ask 2 0 -> NoSuchElement
            ask 3 0 -> NoSuchElement
            ask -1 0 -> NoSuchElement
            ask LEAST 0 -> NoSuchElement
            ask MOST 0 -> NoSuchElement
            make 1 -> 3
            ask 3 0 -> 1
            ask 2 0 -> NoSuchElement
            """);
        document.says("NUMBERS that were given stay given", """
            begin -> 1
            makes 0 100
            end false -> 0
            count 1 -> 0
            count 2 -> 100
            ask 99 0 -> NoSuchElement
            make 0 -> 100
            begin -> 1
            begin -> 2
            copy 100 -> 101
            end true -> 1
            end false -> 0
            copy 100 -> 102
            ask 101 0 -> NoSuchElement
            """);
    }

    private void kinds() {
        document.says("and a KIND 0 .. 9",
            Script.lines("make %d -> %d", 0, 10) + Script.lines("ask %d 0 -> %d", 0, 10) + """
            make -1 -> IllegalArgument
            make 10 -> IllegalArgument
            make LEAST -> IllegalArgument
            make MOST -> IllegalArgument
            make 9 -> 10
            """, """
            link 9 9 2 0 -> 0
            make 9 -> 0
            copy 0 -> 1
            ask 1 0 -> 9
            set 0 0 1 -1 -> 1
            """);
    }

    private void objects() {
        document.says("at most 100 are there", Script.lines("make 0 -> %d", 0, 100) + """
            make 0 -> IllegalState
            copy 0 -> IllegalState
            count 1 -> 100
            ask 99 0 -> 0
            ask 100 0 -> NoSuchElement
            drop 99 -> 1
            count 1 -> 99
            copy 0 -> 100
            copy 0 -> IllegalState
            make 0 -> IllegalState
            drop 0 -> 1
            make 3 -> 101
            make 3 -> IllegalState
            count 1 -> 100
            count 2 -> 102
            """, """
            makes 0 100
            begin -> 1
            drop 7 -> 1
            make 4 -> 100
            make 4 -> IllegalState
            drop 100 -> 1
            drop 99 -> 1
            make 5 -> 101
            end false -> 0
            count 1 -> 100
            make 4 -> IllegalState
            ask 7 0 -> 0
            ask 99 0 -> 0
            ask 101 0 -> NoSuchElement
            drop 7 -> 1
            make 6 -> 102
            ask 102 0 -> 6
            """);
    }

    private void links() {
        document.says("LINKS 0 .. 9 are told once", """
            make 0 -> 0
            size 0 0 0 -> IllegalArgument
            """ + Script.lines("link 0 0 2 0 -> %d\nsize %d 0 0 -> 0", 0, 10) + """
            link 0 0 2 0 -> IllegalState
            size 9 0 0 -> 0
            size 10 0 0 -> IllegalArgument
            size -1 0 0 -> IllegalArgument
            size LEAST 0 0 -> IllegalArgument
            size MOST 0 0 -> IllegalArgument
            set 9 0 0 -1 -> 1
            ROW 0 0 =
            ROW 9 0 = 0
            count 0 -> 10
            """, """
            link 0 0 2 0 -> 0
            make 0 -> 0
            size 1 0 0 -> IllegalArgument
            set 1 0 0 -1 -> IllegalArgument
            cut 1 0 0 -> IllegalArgument
            at 1 0 0 -> IllegalArgument
            back 1 0 0 -> IllegalArgument
            link 0 0 2 0 -> 1
            size 1 0 0 -> 0
            set 1 0 0 -1 -> 1
            at 1 0 0 -> 0
            back 1 0 0 -> 0
            cut 1 0 0 -> 1
            size 2 0 0 -> IllegalArgument
            """);
        document.says("l leads from KIND a to KIND b (a and b may be the same)", """
            link 3 4 2 0 -> 0
            link 4 4 2 0 -> 1
            make 3 -> 0
            make 4 -> 1
            make 4 -> 2
            set 0 0 1 -1 -> 1
            set 0 1 0 -1 -> ClassCast
            set 0 1 2 -1 -> ClassCast
            set 0 0 0 -1 -> ClassCast
            set 1 1 2 -1 -> 1
            set 1 2 1 -1 -> 1
            set 1 0 1 -1 -> ClassCast
            set 1 1 0 -1 -> ClassCast
            """);
    }

    private void forms() {
        document.says("with a FORM: 0 one to one, 1 one to many, 2 many to many", formRun(0), formRun(1), formRun(2));
    }

    /** The same calls by a LINK of each FORM, whatever their RULE. */
    private static String formRun(int rule) {
        return """
            link 0 1 0 RULE -> 0
            link 0 1 1 RULE -> 1
            link 0 1 2 RULE -> 2
            makes 0 2
            makes 1 2
            set 0 0 2 -1 -> 1
            set 0 0 3 -1 -> 1
            ROW 0 0 = 3
            set 0 1 3 -1 -> 1
            ROW 0 0 =
            ROW 0 1 = 3
            BACK 0 2 =
            BACK 0 3 = 1
            set 1 0 2 -1 -> 1
            set 1 0 3 0 -> 2
            ROW 1 0 = 3 2
            set 1 1 3 -1 -> 1
            ROW 1 0 = 2
            ROW 1 1 = 3
            BACK 1 2 = 0
            BACK 1 3 = 1
            set 2 0 2 -1 -> 1
            set 2 0 3 0 -> 2
            set 2 1 3 -1 -> 1
            ROW 2 0 = 3 2
            ROW 2 1 = 3
            BACK 2 2 = 0
            BACK 2 3 = 0 1
            count 5 -> 6
            """.replace("RULE", Integer.toString(rule));
    }

    private void rules() {
        String house = "link 0 0 FORM RULE -> 0\nmakes 0 2\nset 0 0 1 -1 -> 1\n";
        for (String form : new String[] {"0", "1", "2"}) {
            String[] rules = new String[3];
            for (int rule = 0; rule < rules.length; rule++) {
                rules[rule] = house.replace("FORM", form).replace("RULE", Integer.toString(rule));
            }
            document.says("and a RULE: 0 loose, 1 OWNS, 2 BARS.", rules[0] + """
                ask 1 1 -> 0
                way 0 1 -> -1
                set 0 1 0 -1 -> 1
                drop 0 -> 1
                count 1 -> 1
                """, rules[1] + """
                ask 1 1 -> 1
                way 0 1 -> 1
                set 0 1 0 -1 -> UnsupportedOperation
                PATH = 0 1
                drop 0 -> 2
                count 1 -> 0
                """, rules[2] + """
                ask 1 1 -> 0
                way 0 1 -> -1
                set 0 1 0 -1 -> 1
                drop 0 -> IllegalState
                PATH = 0 1
                count 1 -> 2
                """);
        }
    }

    private void rowsOfForms() {
        document.says("An OBJECT x of KIND a HAS by l a row of OBJECTS of KIND b,"
                + " in an order (FORM 0: at most one)", """
            link 0 1 0 0 -> 0
            link 0 1 1 0 -> 1
            link 0 1 2 0 -> 2
            make 0 -> 0
            makes 1 3
            ROW 0 0 =
            size 0 1 0 -> ClassCast
            set 0 0 0 -1 -> ClassCast
            set 0 0 1 -1 -> 1
            set 0 0 2 -1 -> 1
            ROW 0 0 = 2
            BACK 0 1 =
            set 1 0 1 -1 -> 1
            set 1 0 2 -1 -> 2
            set 1 0 3 1 -> 3
            ROW 1 0 = 1 3 2
            set 2 0 1 -1 -> 1
            set 2 0 2 0 -> 2
            set 2 0 3 -1 -> 3
            ROW 2 0 = 2 1 3
            """);
        document.says("an OBJECT y of KIND b IS HAD by l by a row of OBJECTS,"
                + " in the order in which they came to have it (FORM 0, 1: at most one)", """
            link 0 1 0 0 -> 0
            link 0 1 1 0 -> 1
            link 0 1 2 0 -> 2
            makes 0 3
            make 1 -> 3
            set 0 0 3 -1 -> 1
            set 0 1 3 -1 -> 1
            BACK 0 3 = 1
            ROW 0 0 =
            set 1 0 3 -1 -> 1
            set 1 1 3 -1 -> 1
            BACK 1 3 = 1
            ROW 1 0 =
            set 2 2 3 -1 -> 1
            set 2 0 3 -1 -> 1
            set 2 1 3 0 -> 1
            BACK 2 3 = 2 0 1
            set 2 2 3 -1 -> 1
            BACK 2 3 = 2 0 1
            cut 2 2 3 -> 1
            set 2 2 3 0 -> 1
            BACK 2 3 = 0 1 2
            """);
    }

    private void rows() {
        document.says("Rows have at most 12.",
            "link 0 0 1 0 -> 0\nmakes 0 15\n" + Script.lines("set 0 0 %d -1 -> %d", 1, 13) + """
            set 0 0 13 -1 -> IllegalState
            set 0 0 13 0 -> IllegalState
            set 0 0 13 12 -> IllegalState
            ROW 0 0 = 1 2 3 4 5 6 7 8 9 10 11 12
            BACK 0 13 =
            cut 0 0 1 -> 1
            set 0 0 13 -1 -> 12
            set 0 0 1 -1 -> IllegalState
            set 0 1 13 -1 -> 1
            set 0 0 1 0 -> 12
            ROW 0 0 = 1 2 3 4 5 6 7 8 9 10 11 12
            """, "link 0 0 2 1 -> 0\nmakes 0 15\n" + Script.lines("set 0 0 %d 0 -> %d", 1, 13) + """
            set 0 0 13 -1 -> IllegalState
            ROW 0 0 = 12 11 10 9 8 7 6 5 4 3 2 1
            drop 6 -> 1
            set 0 0 13 -1 -> 12
            set 0 0 14 -1 -> IllegalState
            """, "link 0 0 2 2 -> 0\nmakes 0 15\n" + Script.lines("set 0 %d 0 -1 -> 1", 1, 13) + """
            set 0 13 0 -1 -> IllegalState
            set 0 13 0 0 -> IllegalState
            BACK 0 0 = 1 2 3 4 5 6 7 8 9 10 11 12
            ROW 0 13 =
            cut 0 6 0 -> 1
            set 0 13 0 0 -> 1
            BACK 0 0 = 1 2 3 4 5 7 8 9 10 11 12 13
            set 0 6 0 -1 -> IllegalState
            """, "link 0 0 2 0 -> 0\nlink 0 0 2 0 -> 1\nmakes 0 15\n" + Script.lines("set 0 0 %d -1 -> %d", 1, 13) + """
            set 1 0 1 -1 -> 1
            set 0 13 1 -1 -> 1
            set 0 1 0 -1 -> 1
            """);
    }

    private void bothSides() {
        document.says("y is in the row of x just if x is in that of y.", """
            link 0 0 2 0 -> 0
            makes 0 3
            set 0 0 1 -1 -> 1
            ROW 0 0 = 1
            BACK 0 1 = 0
            ROW 0 1 =
            BACK 0 0 =
            set 0 1 0 -1 -> 1
            ROW 0 1 = 0
            BACK 0 0 = 1
            set 0 2 2 -1 -> 1
            ROW 0 2 = 2
            BACK 0 2 = 2
            cut 0 0 1 -> 1
            BACK 0 1 =
            ROW 0 1 = 0
            drop 1 -> 1
            BACK 0 0 =
            cut 0 2 2 -> 1
            BACK 0 2 =
            """);
    }

    private void owners() {
        document.says("x OWNS y: it HAS it by a LINK that OWNS;"
                + " y's OWNERS are those that OWN it, by whatever LINK", """
            link 0 0 0 1 -> 0
            link 0 0 1 1 -> 1
            link 0 0 2 1 -> 2
            link 0 0 2 0 -> 3
            link 0 0 2 2 -> 4
            makes 0 6
            set 0 0 5 -1 -> 1
            set 1 1 5 -1 -> 1
            set 2 2 5 -1 -> 1
            set 2 0 5 -1 -> 1
            set 3 3 5 -1 -> 1
            set 4 4 5 -1 -> 1
            ask 0 4 -> 1
            ask 1 4 -> 1
            ask 2 4 -> 1
            ask 3 4 -> 0
            ask 4 4 -> 0
            ask 5 4 -> 0
            ask 5 1 -> 3
            drop 0 -> 1
            ask 5 1 -> 2
            drop 1 -> 1
            ask 5 0 -> 0
            cut 4 4 5 -> 1
            drop 2 -> 2
            ask 5 0 -> NoSuchElement
            """);
    }

    private void under() {
        document.says("UNDER x is what it OWNS, and what is UNDER that.", """
            link 0 0 2 1 -> 0
            link 0 0 2 0 -> 1
            makes 0 4
            ask 0 2 -> 0
            set 1 0 1 -1 -> 1
            ask 0 2 -> 0
            set 0 0 1 -1 -> 1
            ask 0 2 -> 1
            set 0 1 2 -1 -> 1
            set 0 0 2 -1 -> 2
            ask 0 2 -> 2
            set 1 2 3 -1 -> 1
            ask 0 2 -> 2
            set 0 2 3 -1 -> 1
            ask 0 2 -> 3
            ask 3 2 -> 0
            """, Script.chain(100) + """
            ask 0 2 -> 99
            ask 98 2 -> 1
            ask 99 2 -> 0
            ask 99 3 -> 99
            """);
    }

    private void ring() {
        document.says("No OBJECT is UNDER itself.", """
            link 0 0 0 1 -> 0
            link 0 0 1 1 -> 1
            link 0 0 2 1 -> 2
            makes 0 3
            set 0 0 0 -1 -> UnsupportedOperation
            PATH = 0
            set 1 1 1 -1 -> UnsupportedOperation
            PATH = 1
            set 2 2 2 0 -> UnsupportedOperation
            PATH = 2
            set 0 0 1 -1 -> 1
            set 1 1 0 -1 -> UnsupportedOperation
            PATH = 0 1
            set 1 1 2 -1 -> 1
            set 2 2 0 -1 -> UnsupportedOperation
            PATH = 0 1 2
            set 0 2 1 -1 -> UnsupportedOperation
            PATH = 1 2
            BACK 0 1 = 0
            cut 1 1 2 -> 1
            set 0 2 1 -1 -> 1
            BACK 0 1 = 2
            set 0 1 0 -1 -> 1
            """);
        document.says("RING: a call that would bring an OBJECT UNDER itself: UnsupportedOperationException", """
            link 0 0 2 0 -> 0
            link 0 0 2 1 -> 1
            link 0 0 2 2 -> 2
            makes 0 2
            set 1 0 1 -1 -> 1
            set 0 1 0 -1 -> 1
            set 2 1 0 -1 -> 1
            set 0 0 0 -1 -> 1
            set 2 0 0 -1 -> 1
            count 4 -> 0
            set 1 1 0 -1 -> UnsupportedOperation
            cut 1 0 1 -> 1
            set 1 1 0 -1 -> 1
            """, """
            link 0 1 1 1 -> 0
            link 1 0 1 1 -> 1
            make 0 -> 0
            make 1 -> 1
            set 0 0 1 -1 -> 1
            set 1 1 0 -1 -> UnsupportedOperation
            PATH = 0 1
            """);
    }

    private void ringPath() {
        document.says("PATH is the shortest way from the y of the call to its x, each OWNING the next",
            Script.chain(100) + """
            set 0 99 0 -1 -> UnsupportedOperation
            count 4 -> 100
            path 0 -> 0
            path 50 -> 50
            path 99 -> 99
            path 100 -> IndexOutOfBounds
            set 0 99 98 -1 -> UnsupportedOperation
            PATH = 98 99
            set 0 0 50 -1 -> 2
            set 0 0 99 -1 -> 3
            set 0 99 0 -1 -> UnsupportedOperation
            PATH = 0 99
            """);
        document.says("(of several the one with the least NUMBERS, from the first on)", """
            link 0 0 2 1 -> 0
            makes 0 9
            set 0 8 5 -1 -> 1
            set 0 8 3 -1 -> 2
            set 0 3 7 -1 -> 1
            set 0 3 6 -1 -> 2
            set 0 5 1 -1 -> 1
            set 0 6 0 -1 -> 1
            set 0 7 0 -1 -> 1
            set 0 1 0 -1 -> 1
            set 0 0 8 -1 -> UnsupportedOperation
            PATH = 8 3 6 0
            way 8 0 -> 3
            PATH = 8 3 6 0
            set 0 5 0 -1 -> 2
            set 0 0 8 -1 -> UnsupportedOperation
            PATH = 8 5 0
            """);
    }

    private void levels() {
        document.says("LEVELS: changes (made, dropped, links, rows) since a LEVEL began"
                + " are kept or taken back as a whole", """
            link 0 0 2 1 -> 0
            link 0 0 0 0 -> 1
            makes 0 5
            set 0 0 1 -1 -> 1
            set 0 0 2 -1 -> 2
            set 0 3 2 -1 -> 1
            set 1 0 4 -1 -> 1
            begin -> 1
            end false -> 0
            ROW 0 0 = 1 2
            begin -> 1
            make 0 -> 5
            set 0 0 5 0 -> 3
            set 0 0 2 0 -> 3
            cut 0 0 1 -> 1
            cut 0 3 2 -> 1
            set 0 3 2 -1 -> 1
            set 1 3 4 -1 -> 1
            copy 0 -> 6
            drop 1 -> 1
            ROW 0 0 = 2 5
            BACK 0 2 = 0 3
            end false -> 0
            ROW 0 0 = 1 2
            BACK 0 2 = 0 3
            BACK 0 1 = 0
            ROW 1 0 = 4
            ROW 1 3 =
            BACK 1 4 = 0
            count 1 -> 5
            count 5 -> 4
            """, """
            link 0 0 2 1 -> 0
            makes 0 3
            set 0 0 1 -1 -> 1
            begin -> 1
            make 0 -> 3
            set 0 0 3 0 -> 2
            cut 0 0 1 -> 1
            drop 2 -> 1
            end true -> 0
            ROW 0 0 = 3
            BACK 0 1 =
            ask 2 0 -> NoSuchElement
            count 1 -> 3
            end false -> IllegalState
            """);
    }

    private void levelsTakenBack() {
        document.says("are kept or taken back as a whole", """
            begin -> 1
            makes 0 1
            begin -> 2
            makes 0 1
            begin -> 3
            makes 0 1
            end true -> 2
            count 1 -> 3
            end false -> 1
            count 1 -> 1
            ask 0 0 -> 0
            ask 2 0 -> NoSuchElement
            begin -> 2
            drop 0 -> 1
            end true -> 1
            count 1 -> 0
            end true -> 0
            count 1 -> 0
            """, "link 0 0 2 0 -> 0\nmakes 0 14\nbegin -> 1\n" + Script.lines("set 0 0 %d -1 -> %d", 1, 13) + """
            begin -> 2
            drop 0 -> 1
            end false -> 1
            ROW 0 0 = 1 2 3 4 5 6 7 8 9 10 11 12
            set 0 0 13 -1 -> IllegalState
            end false -> 0
            ROW 0 0 =
            set 0 0 13 -1 -> 1
            """, """
            link 0 0 2 1 -> 0
            makes 0 100
            begin -> 1
            """ + Script.lines("drop %d -> 1", 0, 100) + """
            count 1 -> 0
            end false -> 0
            count 1 -> 100
            ask 0 0 -> 0
            ask 99 0 -> 0
            """);
    }

    private void levelsWithinOneAnother() {
        document.says("At most 12 within one another.",
            Script.lines("begin -> %d", 1, 13) + "begin -> IllegalState\n"
            + "end true -> 11\nbegin -> 12\nbegin -> IllegalState\nend false -> 11\nend false -> 10\nbegin -> 11\n"
            + "begin -> 12\nbegin -> IllegalState\n",
            Script.lines("begin -> 1\nend true -> 0", 0, 20) + "begin -> 1\n",
            eachLevelMakesOne() + """
            count 1 -> 12
            begin -> IllegalState
            end false -> 11
            count 1 -> 11
            end true -> 10
            count 1 -> 11
            end false -> 9
            count 1 -> 9
            end false -> 8
            end false -> 7
            end false -> 6
            count 1 -> 6
            end true -> 5
            end true -> 4
            end true -> 3
            end true -> 2
            end false -> 1
            count 1 -> 1
            end false -> 0
            count 1 -> 0
            count 2 -> 12
            end false -> IllegalState
            """);
    }

    private static String eachLevelMakesOne() {
        StringBuilder all = new StringBuilder();
        for (int n = 0; n < 12; n++) {
            all.append("begin -> %d%nmake 0 -> %d%n".formatted(n + 1, n));
        }
        return all.toString();
    }

    /** What a LEVEL goes back to cannot be seen while it lasts: a refused call must not have touched it either. */
    private void refusedCallsInLevels() {
        String refused = """
            link 0 0 3 0 -> IllegalArgument
            make 10 -> IllegalArgument
            set 0 0 1 -2 -> IllegalArgument
            set 0 0 9 -1 -> NoSuchElement
            set 0 0 4 -1 -> ClassCast
            set 0 2 0 -1 -> UnsupportedOperation
            set 0 0 3 9 -> IndexOutOfBounds
            cut 0 0 4 -> ClassCast
            drop 0 -> IllegalState
            drop 9 -> NoSuchElement
            copy 9 -> NoSuchElement
            end true -> 0
            end false -> IllegalState
            begin -> 1
            """;
        String house = """
            link 0 0 1 1 -> 0
            link 0 1 2 2 -> 1
            makes 0 4
            make 1 -> 4
            set 0 0 1 -1 -> 1
            set 0 1 2 -1 -> 1
            set 1 2 4 -1 -> 1
            """;
        String asItWas = """
            ROW 0 0 = 1
            ROW 0 1 = 2
            ROW 1 2 = 4
            BACK 1 4 = 2
            count 1 -> 5
            count 5 -> 3
            """;
        document.says("A call that throws changes nothing, but PATH, if that is told.",
            house + "begin -> 1\n" + refused + asItWas + "end true -> 0\n" + asItWas,
            house + "begin -> 1\n" + refused + "drop 3 -> 1\ncut 0 0 1 -> 1\nend false -> 0\n" + asItWas,
            Script.lines("begin -> %d", 1, 12) + """
            make 0 -> 0
            begin -> 12
            make 0 -> 1
            begin -> IllegalState
            end false -> 11
            count 1 -> 1
            end false -> 10
            count 1 -> 0
            """);
    }
}
