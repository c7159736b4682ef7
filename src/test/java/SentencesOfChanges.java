/** The sentences of promises 1 to 7, 15 and 16: what changes the house. */
final class SentencesOfChanges {
    private final Sentences document;

    private SentencesOfChanges(Sentences document) {
        this.document = document;
    }

    static void all(Sentences document) {
        SentencesOfChanges promises = new SentencesOfChanges(document);
        promises.newObject();
        promises.link();
        promises.linkInLevels();
        promises.make();
        promises.setPlace();
        promises.setAgain();
        promises.setTakesAway();
        promises.setOne();
        promises.setRowsThatGive();
        promises.setAnswers();
        promises.cut();
        promises.drop();
        promises.dropBarred();
        promises.dropBarredPath();
        promises.dropRows();
        promises.copyObjects();
        promises.copyOwned();
        promises.copyOthers();
        promises.copyBackRows();
        promises.copyRoomForObjects();
        promises.copyRoomForRows();
        promises.begin();
        promises.end();
    }

    private void newObject() {
        document.says("No LINKS, no OBJECTS.", """
            count 0 -> 0
            count 1 -> 0
            count 2 -> 0
            count 3 -> 0
            count 4 -> 0
            count 5 -> 0
            set 0 0 0 -1 -> IllegalArgument
            cut 0 0 0 -> IllegalArgument
            drop 0 -> NoSuchElement
            copy 0 -> NoSuchElement
            alike 0 0 -> NoSuchElement
            at 0 0 0 -> IllegalArgument
            back 0 0 0 -> IllegalArgument
            ask 0 0 -> NoSuchElement
            size 0 0 0 -> IllegalArgument
            way 0 0 -> NoSuchElement
            path 0 -> IndexOutOfBounds
            end true -> IllegalState
            end false -> IllegalState
            begin -> 1
            end false -> 0
            make 0 -> 0
            link 0 0 0 0 -> 0
            """);
    }

    private void link() {
        document.says("A new LINK from KIND a to KIND b, form 0 .. 2, rule 0 .. 2", """
            link -1 0 0 0 -> IllegalArgument
            link LEAST 0 0 0 -> IllegalArgument
            link 10 0 0 0 -> IllegalArgument
            link MOST 0 0 0 -> IllegalArgument
            link 0 -1 0 0 -> IllegalArgument
            link 0 LEAST 0 0 -> IllegalArgument
            link 0 10 0 0 -> IllegalArgument
            link 0 MOST 0 0 -> IllegalArgument
            link 0 0 -1 0 -> IllegalArgument
            link 0 0 LEAST 0 -> IllegalArgument
            link 0 0 3 0 -> IllegalArgument
            link 0 0 MOST 0 -> IllegalArgument
            link 0 0 0 -1 -> IllegalArgument
            link 0 0 0 LEAST -> IllegalArgument
            link 0 0 0 3 -> IllegalArgument
            link 0 0 0 MOST -> IllegalArgument
            count 0 -> 0
            link 0 0 0 0 -> 0
            link 9 0 0 0 -> 1
            link 0 9 0 0 -> 2
            link 0 0 2 0 -> 3
            link 0 0 0 2 -> 4
            link 9 9 2 2 -> 5
            count 0 -> 6
            """);
        document.says("10 are there: IllegalStateException. Answers its number.", """
            link 0 0 2 1 -> 0
            """ + Script.lines("link 0 0 2 1 -> %d", 1, 9) + """
            link 5 6 0 0 -> 9
            link 5 6 0 0 -> IllegalState
            link 0 0 2 1 -> IllegalState
            count 0 -> 10
            make 5 -> 0
            make 6 -> 1
            set 9 0 1 -1 -> 1
            """);
    }

    private void linkInLevels() {
        document.says("(it is told whatever LEVEL it is)", """
            makes 0 2
            begin -> 1
            link 0 0 2 1 -> 0
            set 0 0 1 -1 -> 1
            end false -> 0
            count 0 -> 1
            ROW 0 0 =
            set 0 0 1 -1 -> 1
            begin -> 1
            link 0 0 0 0 -> 1
            end true -> 0
            link 0 0 1 0 -> 2
            count 0 -> 3
            set 1 0 1 -1 -> 1
            """, Script.lines("begin -> %d", 1, 13) + """
            link 0 0 2 0 -> 0
            end false -> 11
            link 0 0 2 0 -> 1
            end false -> 10
            end false -> 9
            count 0 -> 2
            """, "begin -> 1\n" + Script.lines("link 0 0 2 0 -> %d", 0, 10) + """
            link 0 0 2 0 -> IllegalState
            end false -> 0
            link 0 0 2 0 -> IllegalState
            count 0 -> 10
            """);
    }

    private void make() {
        document.says("A new OBJECT of a KIND; 100 are there: IllegalStateException. Answers its NUMBER.", """
            makes 0 99
            make 9 -> 99
            make 9 -> IllegalState
            make 0 -> IllegalState
            count 1 -> 100
            count 2 -> 100
            ask 99 0 -> 9
            drop 0 -> 1
            make 8 -> 100
            ask 100 0 -> 8
            make 8 -> IllegalState
            """, """
            makes 0 99
            begin -> 1
            make 0 -> 99
            make 0 -> IllegalState
            end false -> 0
            make 0 -> 100
            make 0 -> IllegalState
            begin -> 1
            drop 100 -> 1
            make 0 -> 101
            end true -> 0
            make 0 -> IllegalState
            """);
    }

    private void setPlace() {
        document.says("x comes to HAVE y by l, in place i of its row (from 0; -1: at the end; below: out of range)", """
            link 0 0 2 0 -> 0
            makes 0 6
            set 0 0 1 -2 -> IllegalArgument
            set 0 0 1 LEAST -> IllegalArgument
            set 0 0 1 1 -> IndexOutOfBounds
            set 0 0 1 MOST -> IndexOutOfBounds
            set 0 0 1 -1 -> 1
            set 0 0 2 0 -> 2
            set 0 0 3 -1 -> 3
            set 0 0 4 4 -> IndexOutOfBounds
            set 0 0 4 3 -> 4
            ROW 0 0 = 2 1 3 4
            set 0 0 5 1 -> 5
            ROW 0 0 = 2 5 1 3 4
            set 0 0 5 -2 -> IllegalArgument
            """, """
            link 0 0 0 0 -> 0
            makes 0 3
            set 0 0 1 1 -> IndexOutOfBounds
            set 0 0 1 0 -> 1
            set 0 0 2 -2 -> IllegalArgument
            set 0 0 2 1 -> IndexOutOfBounds
            ROW 0 0 = 1
            set 0 0 2 0 -> 1
            set 0 0 1 -1 -> 1
            ROW 0 0 = 1
            """, "link 0 0 1 0 -> 0\nmakes 0 20\n" + Script.lines("set 0 0 %d -1 -> %d", 1, 12) + """
            set 0 0 12 12 -> IndexOutOfBounds
            set 0 0 12 11 -> 12
            ROW 0 0 = 1 2 3 4 5 6 7 8 9 10 11 12
            """);
    }

    private void setAgain() {
        document.says("It HAS y already: y is taken out of the row, and comes to place i of what is left"
                + " (above its end: IndexOutOfBoundsException)", """
            link 0 0 2 1 -> 0
            makes 0 4
            set 0 0 1 -1 -> 1
            set 0 0 1 0 -> 1
            set 0 0 1 -1 -> 1
            set 0 0 1 1 -> IndexOutOfBounds
            set 0 0 1 MOST -> IndexOutOfBounds
            set 0 0 2 -1 -> 2
            set 0 0 3 -1 -> 3
            set 0 0 1 3 -> IndexOutOfBounds
            set 0 0 1 2 -> 3
            ROW 0 0 = 2 3 1
            set 0 0 1 1 -> 3
            ROW 0 0 = 2 1 3
            set 0 0 1 1 -> 3
            ROW 0 0 = 2 1 3
            set 0 0 3 0 -> 3
            ROW 0 0 = 3 2 1
            set 0 0 3 -1 -> 3
            ROW 0 0 = 2 1 3
            set 0 0 3 -2 -> IllegalArgument
            count 5 -> 3
            """, """
            link 0 0 0 1 -> 0
            makes 0 2
            set 0 0 1 -1 -> 1
            set 0 0 1 1 -> IndexOutOfBounds
            set 0 0 1 0 -> 1
            BACK 0 1 = 0
            """, "link 0 0 2 0 -> 0\nmakes 0 30\n" + Script.lines("set 0 0 %d -1 -> %d", 1, 13)
            + Script.lines("set 0 %d 12 -1 -> 1", 13, 24) + """
            set 0 0 12 12 -> IndexOutOfBounds
            set 0 0 12 11 -> 12
            set 0 0 12 -1 -> 12
            set 0 0 12 0 -> 12
            ROW 0 0 = 12 1 2 3 4 5 6 7 8 9 10 11
            BACK 0 12 = 0 13 14 15 16 17 18 19 20 21 22 23
            """);
    }

    private void setTakesAway() {
        document.says("Else, with FORM 0 what x had it has no more; with FORM 0, 1 who HAS y has it no more", """
            link 0 0 0 1 -> 0
            link 0 0 1 1 -> 1
            link 0 0 2 1 -> 2
            makes 0 6
            set 0 0 1 -1 -> 1
            set 0 2 3 -1 -> 1
            set 0 0 3 -1 -> 1
            ROW 0 0 = 3
            ROW 0 2 =
            BACK 0 1 =
            BACK 0 3 = 0
            ask 1 0 -> 0
            set 1 0 1 -1 -> 1
            set 1 0 3 -1 -> 2
            set 1 2 3 -1 -> 1
            set 1 2 4 0 -> 2
            set 1 0 4 1 -> 2
            ROW 1 0 = 1 4
            ROW 1 2 = 3
            set 2 0 1 -1 -> 1
            set 2 2 1 -1 -> 1
            ROW 2 0 = 1
            count 5 -> 6
            """, """
            link 0 0 0 0 -> 0
            link 0 0 0 0 -> 1
            makes 0 3
            set 0 0 1 -1 -> 1
            set 1 0 1 -1 -> 1
            set 0 2 1 -1 -> 1
            ROW 0 0 =
            ROW 1 0 = 1
            set 1 0 2 -1 -> 1
            ROW 0 2 = 1
            """);
    }

    private void setOne() {
        document.says("(x and y may be one, if l does not OWN;)", """
            link 0 0 0 0 -> 0
            link 0 0 1 2 -> 1
            link 0 0 2 0 -> 2
            link 0 0 0 1 -> 3
            link 0 0 1 1 -> 4
            link 0 0 2 1 -> 5
            makes 0 3
            set 0 0 1 -1 -> 1
            set 0 2 0 -1 -> 1
            set 0 0 0 -1 -> 1
            ROW 0 0 = 0
            BACK 0 0 = 0
            BACK 0 1 =
            ROW 0 2 =
            set 1 2 0 -1 -> 1
            set 1 0 1 -1 -> 1
            set 1 0 0 0 -> 2
            ROW 1 0 = 0 1
            BACK 1 0 = 0
            set 2 0 0 -1 -> 1
            set 2 0 0 0 -> 1
            set 2 0 0 1 -> IndexOutOfBounds
            set 3 0 0 -1 -> UnsupportedOperation
            set 4 0 0 -1 -> UnsupportedOperation
            set 5 0 0 -1 -> UnsupportedOperation
            PATH = 0
            cut 2 0 0 -> 1
            cut 2 0 0 -> 0
            """);
    }

    private void setRowsThatGive() {
        document.says("a row (x's, y's) that would have more than 12: IllegalStateException",
            "link 0 0 1 0 -> 0\nmakes 0 30\n" + Script.lines("set 0 0 %d -1 -> %d", 1, 13) + """
            set 0 14 13 -1 -> 1
            set 0 0 13 -1 -> IllegalState
            ROW 0 14 = 13
            BACK 0 13 = 14
            set 0 14 12 -1 -> 2
            set 0 0 13 -1 -> 12
            ROW 0 14 = 12
            """, "link 0 0 2 0 -> 0\nmakes 0 30\n" + Script.lines("set 0 0 %d -1 -> %d", 1, 12)
            + Script.lines("set 0 %d 20 -1 -> 1", 1, 12) + """
            set 0 0 20 -1 -> 12
            BACK 0 20 = 1 2 3 4 5 6 7 8 9 10 11 0
            set 0 12 20 -1 -> IllegalState
            set 0 0 12 -1 -> IllegalState
            """, "link 0 0 2 0 -> 0\nmakes 0 13\n" + Script.lines("set 0 0 %d -1 -> %d", 1, 13) + """
            set 0 0 0 -1 -> IllegalState
            cut 0 0 7 -> 1
            set 0 0 0 -1 -> 12
            """);
    }

    private void setAnswers() {
        document.says("Answers how many x HAS by l.", """
            link 0 0 2 0 -> 0
            link 0 0 2 0 -> 1
            makes 0 4
            set 1 0 3 -1 -> 1
            set 0 0 1 -1 -> 1
            set 0 0 2 -1 -> 2
            set 0 0 1 -1 -> 2
            set 0 1 2 -1 -> 1
            """);
    }

    private void cut() {
        document.says("x HAS y by l no more. Answers 1, 0 if it had not.",
            "link 0 0 2 0 -> 0\nlink 0 0 2 1 -> 1\nmakes 0 20\ncut 0 0 1 -> 0\ncut 0 0 0 -> 0\n"
            + Script.lines("set 0 0 %d -1 -> %d", 1, 13) + """
            set 1 0 1 -1 -> 1
            cut 0 1 0 -> 0
            cut 0 0 13 -> 0
            cut 0 0 1 -> 1
            cut 0 0 1 -> 0
            cut 0 0 12 -> 1
            cut 0 0 6 -> 1
            ROW 0 0 = 2 3 4 5 7 8 9 10 11
            ROW 1 0 = 1
            cut 1 0 1 -> 1
            cut 1 0 1 -> 0
            ask 1 0 -> 0
            """ + Script.lines("cut 0 0 %d -> 1", 2, 6) + Script.lines("cut 0 0 %d -> 1", 7, 12) + """
            ROW 0 0 =
            cut 0 0 2 -> 0
            count 5 -> 0
            cut 2 0 1 -> IllegalArgument
            cut -1 0 1 -> IllegalArgument
            cut LEAST 0 1 -> IllegalArgument
            cut MOST 0 1 -> IllegalArgument
            cut 0 20 1 -> NoSuchElement
            cut 0 0 20 -> NoSuchElement
            cut 0 LEAST MOST -> NoSuchElement
            """);
    }

    private void drop() {
        document.says("x goes, with GONE: x, and, as long as there are such, all OBJECTS that are OWNED,"
                + " and whose OWNERS are all GONE.", """
            link 0 0 2 1 -> 0
            link 0 0 2 0 -> 1
            makes 0 7
            set 0 0 1 -1 -> 1
            set 0 1 2 -1 -> 1
            set 0 0 2 -1 -> 2
            set 0 3 4 -1 -> 1
            set 0 1 4 -1 -> 2
            set 1 0 5 -1 -> 1
            set 1 5 0 -1 -> 1
            set 0 6 0 -1 -> 1
            drop 0 -> 3
            ask 4 0 -> 0
            ask 5 0 -> 0
            ask 6 4 -> 0
            drop 3 -> 2
            drop 3 -> NoSuchElement
            drop 4 -> NoSuchElement
            drop 7 -> NoSuchElement
            drop -1 -> NoSuchElement
            drop LEAST -> NoSuchElement
            drop MOST -> NoSuchElement
            drop 5 -> 1
            drop 6 -> 1
            count 1 -> 0
            drop 0 -> NoSuchElement
            """, Script.chain(100) + """
            drop 99 -> 1
            drop 50 -> 49
            drop 0 -> 50
            count 1 -> 0
            count 5 -> 0
            make 0 -> 100
            """, Script.chain(100) + """
            drop 0 -> 100
            count 1 -> 0
            """);
    }

    private void dropBarred() {
        document.says("HAS by a LINK that BARS an OBJECT that is not GONE: IllegalStateException", """
            link 0 0 2 1 -> 0
            link 0 0 0 2 -> 1
            link 0 0 1 2 -> 2
            link 0 0 2 2 -> 3
            link 0 0 2 0 -> 4
            makes 0 5
            set 0 0 1 -1 -> 1
            set 4 0 2 -1 -> 1
            set 1 0 0 -1 -> 1
            set 2 0 1 -1 -> 1
            set 3 1 0 -1 -> 1
            set 3 1 1 -1 -> 2
            set 3 2 0 -1 -> 1
            begin -> 1
            drop 0 -> 2
            ROW 3 2 =
            end false -> 0
            count 4 -> 0
            set 1 0 3 -1 -> 1
            drop 0 -> IllegalState
            PATH = 0 3
            cut 1 0 3 -> 1
            set 2 1 3 -1 -> 1
            drop 0 -> IllegalState
            PATH = 0 1 3
            drop 1 -> IllegalState
            PATH = 1 0
            set 3 0 4 -1 -> 1
            drop 0 -> IllegalState
            PATH = 0 4
            cut 3 0 4 -> 1
            set 0 4 1 -1 -> 1
            drop 0 -> IllegalState
            PATH = 0 1
            cut 2 0 1 -> 1
            drop 0 -> 1
            ROW 0 4 = 1
            ROW 3 1 = 1
            ROW 2 1 = 3
            """, """
            link 0 0 2 2 -> 0
            makes 0 2
            set 0 1 0 -1 -> 1
            drop 1 -> IllegalState
            PATH = 1 0
            drop 0 -> 1
            drop 1 -> 1
            """, Script.lines("link 0 0 0 2 -> %d", 0, 10) + """
            makes 0 2
            set 9 0 1 -1 -> 1
            drop 0 -> IllegalState
            PATH = 0 1
            """);
        document.says("Else GONE and all that HAS or IS HAD by them goes. Answers how many.", """
            link 0 0 2 2 -> 0
            makes 0 3
            set 0 1 0 -1 -> 1
            set 0 2 0 -1 -> 1
            drop 0 -> 1
            ROW 0 1 =
            ROW 0 2 =
            count 1 -> 2
            count 5 -> 0
            """);
    }

    private void dropBarredPath() {
        document.says("One of GONE (the first: fewest steps from x over what OWNS within GONE, then least NUMBER)", """
            link 0 0 2 1 -> 0
            link 0 0 2 2 -> 1
            makes 0 12
            set 0 9 8 -1 -> 1
            set 0 9 7 -1 -> 2
            set 0 8 1 -1 -> 1
            set 0 7 2 -1 -> 1
            set 1 1 10 -1 -> 1
            set 1 2 10 -1 -> 1
            drop 9 -> IllegalState
            PATH = 9 8 1 10
            set 1 8 11 -1 -> 1
            drop 9 -> IllegalState
            PATH = 9 8 11
            set 1 7 11 -1 -> 1
            drop 9 -> IllegalState
            PATH = 9 7 11
            set 1 9 11 -1 -> 1
            drop 9 -> IllegalState
            PATH = 9 11
            """);
        document.says("PATH is the shortest way from x to it, each OWNING the next, within GONE"
                + " (of several the least as above), and behind it the least such OBJECT that it HAS.", """
            link 0 0 2 1 -> 0
            link 0 0 2 2 -> 1
            link 0 0 1 2 -> 2
            makes 0 12
            set 0 9 8 -1 -> 1
            set 0 9 7 -1 -> 2
            set 0 8 1 -1 -> 1
            set 0 7 1 -1 -> 1
            set 1 1 11 -1 -> 1
            set 1 1 7 -1 -> 2
            set 2 1 10 -1 -> 1
            drop 9 -> IllegalState
            PATH = 9 7 1 10
            set 1 1 6 -1 -> 3
            drop 9 -> IllegalState
            PATH = 9 7 1 6
            drop 8 -> 1
            PATH = 9 7 1 6
            """, Script.chain(99) + """
            link 0 0 1 2 -> 1
            make 0 -> 99
            set 1 98 99 -1 -> 1
            drop 0 -> IllegalState
            count 4 -> 100
            path 0 -> 0
            path 98 -> 98
            path 99 -> 99
            path 100 -> IndexOutOfBounds
            cut 1 98 99 -> 1
            drop 0 -> 99
            count 4 -> 100
            """);
    }

    private void dropRows() {
        document.says("Else GONE and all that HAS or IS HAD by them goes.",
            "link 0 0 2 0 -> 0\nmakes 0 14\n" + Script.lines("set 0 0 %d -1 -> %d", 1, 13) + """
            set 0 13 1 -1 -> 1
            set 0 1 1 -1 -> 1
            drop 1 -> 1
            ROW 0 0 = 2 3 4 5 6 7 8 9 10 11 12
            ROW 0 13 =
            drop 12 -> 1
            drop 7 -> 1
            ROW 0 0 = 2 3 4 5 6 8 9 10 11
            drop 0 -> 1
            BACK 0 2 =
            count 5 -> 0
            """);
    }

    private void copyObjects() {
        document.says("A copy of x with all that is UNDER it: new OBJECTS of the same KINDS,"
                + " in the order of the old ones' NUMBERS", """
            link 1 0 2 1 -> 0
            link 0 9 2 1 -> 1
            make 9 -> 0
            make 0 -> 1
            make 1 -> 2
            make 9 -> 3
            set 0 2 1 -1 -> 1
            set 1 1 3 -1 -> 1
            set 1 1 0 -1 -> 2
            copy 2 -> 6
            ask 4 0 -> 9
            ask 5 0 -> 0
            ask 6 0 -> 1
            ask 7 0 -> 9
            ROW 0 6 = 5
            ROW 1 5 = 7 4
            copy 0 -> 8
            copy 8 -> 9
            ask 9 0 -> 9
            ask 9 1 -> 0
            copy 10 -> NoSuchElement
            copy -1 -> NoSuchElement
            copy LEAST -> NoSuchElement
            copy MOST -> NoSuchElement
            """);
        document.says("Answers the copy's NUMBER.", """
            link 0 0 2 1 -> 0
            makes 0 3
            set 0 1 0 -1 -> 1
            set 0 1 2 -1 -> 2
            copy 1 -> 4
            copy 4 -> 7
            drop 4 -> 3
            copy 4 -> NoSuchElement
            copy 2 -> 9
            """);
    }

    private void copyOwned() {
        document.says("by LINKS that OWN what old ones OWN among these, in the same order, is HAD by their copies", """
            link 0 0 0 1 -> 0
            link 0 0 1 1 -> 1
            link 0 0 2 1 -> 2
            makes 0 6
            set 0 1 2 -1 -> 1
            set 1 1 4 -1 -> 1
            set 1 1 3 -1 -> 2
            set 2 1 4 -1 -> 1
            set 2 1 2 0 -> 2
            set 2 2 4 -1 -> 1
            set 0 0 1 -1 -> 1
            set 2 5 4 -1 -> 1
            copy 1 -> 6
            ROW 0 6 = 7
            ROW 1 6 = 9 8
            ROW 2 6 = 7 9
            ROW 2 7 = 9
            BACK 2 9 = 6 7
            BACK 2 4 = 1 2 5
            ask 6 1 -> 0
            ROW 0 0 = 1
            ROW 2 5 = 4
            alike 1 6 -> 1
            """);
    }

    private void copyOthers() {
        document.says("by other LINKS of FORM 2 copies HAVE what old ones HAVE (copies of these, if there are),"
                + " in the same order; by LINKS of FORM 0 and 1 that do not OWN, only copies of what has copies.", """
            link 0 0 2 1 -> 0
            link 0 0 2 0 -> 1
            link 0 0 2 2 -> 2
            link 0 0 1 0 -> 3
            link 0 0 1 2 -> 4
            link 0 0 0 0 -> 5
            link 0 0 0 2 -> 6
            makes 0 5
            set 0 1 2 -1 -> 1
            set 1 1 4 -1 -> 1
            set 1 1 2 -1 -> 2
            set 1 1 1 -1 -> 3
            set 1 1 0 -1 -> 4
            set 1 0 1 -1 -> 1
            set 2 2 3 -1 -> 1
            set 2 2 1 -1 -> 2
            set 3 1 4 -1 -> 1
            set 3 1 2 -1 -> 2
            set 3 1 0 -1 -> 3
            set 3 1 1 -1 -> 4
            set 4 2 3 -1 -> 1
            set 4 2 1 0 -> 2
            set 5 1 3 -1 -> 1
            set 5 2 2 -1 -> 1
            set 5 3 1 -1 -> 1
            set 6 1 2 -1 -> 1
            set 6 2 4 -1 -> 1
            copy 1 -> 5
            ROW 0 5 = 6
            ROW 1 5 = 4 6 5 0
            ROW 2 6 = 3 5
            ROW 3 5 = 6 5
            ROW 4 6 = 5
            ROW 5 5 =
            ROW 5 6 = 6
            ROW 6 5 = 6
            ROW 6 6 =
            BACK 1 5 = 5
            BACK 3 4 = 1
            BACK 5 3 = 1
            BACK 5 5 =
            ROW 1 0 = 1
            """);
    }

    private void copyBackRows() {
        document.says("Who IS HAD by copies: in the order in which it, or what it is a copy of, IS HAD by the old ones;"
                + " behind who HAS it already.", """
            link 0 0 2 1 -> 0
            link 0 0 2 0 -> 1
            makes 0 6
            set 0 0 1 -1 -> 1
            set 0 0 2 -1 -> 2
            set 1 2 5 -1 -> 1
            set 1 4 5 -1 -> 1
            set 1 0 5 -1 -> 1
            set 1 1 5 -1 -> 1
            set 1 2 1 -1 -> 2
            set 1 4 1 -1 -> 2
            set 1 1 1 -1 -> 2
            set 1 0 1 -1 -> 2
            set 0 1 2 -1 -> 1
            copy 0 -> 6
            BACK 1 5 = 2 4 0 1 8 6 7
            BACK 1 7 = 8 7 6
            BACK 0 8 = 6 7
            set 1 3 5 -1 -> 1
            copy 2 -> 9
            BACK 1 5 = 2 4 0 1 8 6 7 3 9
            BACK 1 1 = 2 4 1 0 9
            """);
    }

    private void copyRoomForObjects() {
        document.says("No room for the OBJECTS, or for a row: IllegalStateException.", Script.chain(50) + """
            begin -> 1
            copy 0 -> 50
            count 1 -> 100
            copy 49 -> IllegalState
            drop 50 -> 50
            copy 0 -> 100
            end false -> 0
            count 1 -> 50
            make 0 -> 150
            copy 0 -> IllegalState
            copy 1 -> 151
            count 1 -> 100
            copy 150 -> IllegalState
            make 0 -> IllegalState
            count 2 -> 200
            """, """
            makes 0 99
            copy 98 -> 99
            copy 98 -> IllegalState
            copy 99 -> IllegalState
            drop 0 -> 1
            copy 99 -> 100
            """, Script.chain(51) + """
            copy 0 -> IllegalState
            copy 1 -> IllegalState
            copy 2 -> 51
            copy 50 -> IllegalState
            """);
    }

    private void copyRoomForRows() {
        document.says("No room for the OBJECTS, or for a row: IllegalStateException.",
            "link 0 0 2 1 -> 0\nlink 0 0 2 0 -> 1\nmakes 0 30\n" + Script.lines("set 0 0 %d -1 -> %d", 1, 7)
            + Script.lines("set 1 %d 20 -1 -> 1", 1, 7) + """
            copy 0 -> 30
            BACK 1 20 = 1 2 3 4 5 6 31 32 33 34 35 36
            copy 0 -> IllegalState
            copy 1 -> IllegalState
            cut 1 34 20 -> 1
            copy 0 -> IllegalState
            copy 1 -> 37
            BACK 1 20 = 1 2 3 4 5 6 31 32 33 35 36 37
            copy 7 -> 38
            """,
            "link 0 0 2 0 -> 0\nmakes 0 14\n" + Script.lines("set 0 %d 0 -1 -> 1", 1, 13) + """
            copy 1 -> IllegalState
            copy 13 -> 14
            copy 0 -> 15
            cut 0 12 0 -> 1
            copy 1 -> 16
            BACK 0 0 = 1 2 3 4 5 6 7 8 9 10 11 16
            """,
            Script.lines("link 0 0 2 0 -> %d", 0, 10) + "makes 0 100\n"
            + Script.lines("set 9 %d 99 -1 -> 1", 0, 12) + """
            drop 50 -> 1
            copy 0 -> IllegalState
            copy 99 -> 100
            """,
            "link 0 0 2 1 -> 0\nlink 0 0 2 2 -> 1\nmakes 0 30\n" + Script.lines("set 0 0 %d -1 -> %d", 1, 8)
            + Script.lines("set 1 %d 20 -1 -> 1", 1, 8) + """
            copy 0 -> IllegalState
            cut 1 7 20 -> 1
            copy 0 -> 30
            """,
            "link 0 0 2 1 -> 0\nlink 0 0 1 2 -> 1\nlink 0 0 2 2 -> 2\nmakes 0 30\n"
            + Script.lines("set 0 %d 20 -1 -> 1", 0, 12) + Script.lines("set 1 0 %d -1 -> %d", 1, 13)
            + Script.lines("set 2 %d 0 -1 -> 1", 1, 13) + Script.lines("set 2 0 %d -1 -> %d", 1, 13) + """
            copy 0 -> 30
            ROW 0 30 = 31
            BACK 0 31 = 30
            ROW 1 30 =
            BACK 2 30 =
            ROW 2 30 = 1 2 3 4 5 6 7 8 9 10 11 12
            copy 20 -> 32
            """,
            "link 0 0 2 1 -> 0\nmakes 0 13\n" + Script.lines("set 0 0 %d -1 -> %d", 1, 13)
            + Script.lines("set 0 %d 12 -1 -> 1", 1, 12) + """
            copy 0 -> 13
            ROW 0 13 = 14 15 16 17 18 19 20 21 22 23 24 25
            BACK 0 25 = 13 14 15 16 17 18 19 20 21 22 23 24
            BACK 0 12 = 0 1 2 3 4 5 6 7 8 9 10 11
            """);
    }

    private void begin() {
        document.says("A LEVEL; 12 are within one another: IllegalStateException. Answers how many there are.",
            Script.lines("begin -> %d\ncount 3 -> %d", 1, 13) + """
            begin -> IllegalState
            begin -> IllegalState
            count 3 -> 12
            end false -> 11
            begin -> 12
            begin -> IllegalState
            end true -> 11
            begin -> 12
            """);
    }

    private void end() {
        document.says("The last LEVEL is over; there is none: IllegalStateException.", """
            end true -> IllegalState
            end false -> IllegalState
            make 0 -> 0
            end false -> IllegalState
            begin -> 1
            end true -> 0
            end true -> IllegalState
            begin -> 1
            drop 0 -> 1
            end false -> 0
            end false -> IllegalState
            ask 0 0 -> 0
            """, Script.lines("begin -> %d", 1, 13) + """
            end false -> 11
            end true -> 10
            end false -> 9
            end true -> 8
            end true -> 7
            end true -> 6
            end true -> 5
            end true -> 4
            end true -> 3
            end true -> 2
            end true -> 1
            end true -> 0
            end true -> IllegalState
            """);
        document.says("Not kept: all is as it was when it began. Answers how many are left.", """
            link 0 0 2 0 -> 0
            makes 0 3
            set 0 0 1 -1 -> 1
            set 0 0 2 -1 -> 2
            set 0 1 2 -1 -> 1
            begin -> 1
            set 0 0 2 0 -> 2
            begin -> 2
            cut 0 0 2 -> 1
            set 0 0 2 -1 -> 2
            BACK 0 2 = 1 0
            end false -> 1
            ROW 0 0 = 2 1
            BACK 0 2 = 0 1
            end false -> 0
            ROW 0 0 = 1 2
            BACK 0 2 = 0 1
            """);
    }
}
