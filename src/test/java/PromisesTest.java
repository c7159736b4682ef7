/** Each promise of the document by itself: ordinary inputs, the edges that it names, wrong inputs. */
public final class PromisesTest {
    private static final Due DUE = new Due("PromisesTest");

    public static void main(String[] args) {
        newObject();
        link();
        make();
        setForms();
        setPlaces();
        setRing();
        setFullRows();
        setWrong();
        cut();
        drop();
        dropBarred();
        copyRows();
        copyBackRows();
        copyWithoutRoom();
        alike();
        at();
        back();
        ask();
        size();
        way();
        path();
        levels();
        levelsAndLinks();
        count();
        rowsToTheirEnds();
        manyWays();
        DUE.close();
    }

    private static void run(String name, String text) {
        Script.run(DUE, name, text);
    }

    private static void newObject() {
        run("1: a new object", """
            count 0 -> 0
            count 1 -> 0
            count 2 -> 0
            count 3 -> 0
            count 4 -> 0
            count 5 -> 0
            ask 0 0 -> NoSuchElement
            size 0 0 0 -> IllegalArgument
            path 0 -> IndexOutOfBounds
            end true -> IllegalState
            """);
    }

    private static void link() {
        run("2: link", """
            link 0 9 0 0 -> 0
            link 9 0 2 2 -> 1
            link -1 0 0 0 -> IllegalArgument
            link 10 0 0 0 -> IllegalArgument
            link 0 -1 0 0 -> IllegalArgument
            link 0 10 0 0 -> IllegalArgument
            link 0 0 -1 0 -> IllegalArgument
            link 0 0 3 0 -> IllegalArgument
            link 0 0 0 -1 -> IllegalArgument
            link 0 0 0 3 -> IllegalArgument
            count 0 -> 2
            """ + Script.lines("link 3 3 1 1 -> %d", 2, 10) + """
            link 0 0 2 1 -> IllegalState
            link 0 0 2 3 -> IllegalArgument
            count 0 -> 10
            """);
    }

    private static void make() {
        run("3: make", """
            make 0 -> 0
            make 9 -> 1
            make -1 -> IllegalArgument
            make 10 -> IllegalArgument
            count 2 -> 2
            ask 0 0 -> 0
            ask 1 0 -> 9
            drop 0 -> 1
            make 4 -> 2
            ask 0 0 -> NoSuchElement
            ask 2 0 -> 4
            makes 1 98
            count 1 -> 100
            make 1 -> IllegalState
            make 10 -> IllegalArgument
            count 2 -> 101
            drop 50 -> 1
            make 1 -> 101
            """);
    }

    private static void setForms() {
        run("4: set, one to one", """
            link 0 0 0 0 -> 0
            makes 0 5
            set 0 0 1 -1 -> 1
            set 0 2 3 0 -> 1
            set 0 0 3 0 -> 1
            ROW 0 0 = 3
            ROW 0 2 =
            BACK 0 1 =
            BACK 0 3 = 0
            set 0 0 3 0 -> 1
            set 0 0 3 1 -> IndexOutOfBounds
            set 0 0 1 1 -> IndexOutOfBounds
            count 5 -> 1
            set 0 4 0 -1 -> 1
            set 0 0 0 -1 -> 1
            ROW 0 0 = 0
            BACK 0 0 = 0
            ROW 0 4 =
            count 5 -> 1
            """);
        run("4: set, one to many", """
            link 0 1 1 0 -> 0
            makes 0 2
            makes 1 3
            set 0 0 2 -1 -> 1
            set 0 0 3 -1 -> 2
            set 0 0 4 1 -> 3
            ROW 0 0 = 2 4 3
            set 0 1 4 -1 -> 1
            ROW 0 0 = 2 3
            ROW 0 1 = 4
            BACK 0 4 = 1
            count 5 -> 3
            """);
        run("4: set, many to many", """
            link 0 1 2 0 -> 0
            makes 0 3
            makes 1 2
            set 0 2 3 -1 -> 1
            set 0 0 3 -1 -> 1
            set 0 1 3 -1 -> 1
            set 0 0 4 0 -> 2
            BACK 0 3 = 2 0 1
            ROW 0 0 = 4 3
            set 0 2 3 0 -> 1
            BACK 0 3 = 2 0 1
            count 5 -> 4
            """);
    }

    private static void setPlaces() {
        run("4: set, places", """
            link 0 0 2 0 -> 0
            makes 0 6
            set 0 0 1 1 -> IndexOutOfBounds
            set 0 0 1 0 -> 1
            set 0 0 2 0 -> 2
            set 0 0 3 2 -> 3
            set 0 0 4 1 -> 4
            ROW 0 0 = 2 4 1 3
            set 0 0 5 5 -> IndexOutOfBounds
            set 0 0 2 4 -> IndexOutOfBounds
            set 0 0 2 3 -> 4
            ROW 0 0 = 4 1 3 2
            set 0 0 1 -1 -> 4
            ROW 0 0 = 4 3 2 1
            set 0 0 2 0 -> 4
            ROW 0 0 = 2 4 3 1
            set 0 0 4 1 -> 4
            ROW 0 0 = 2 4 3 1
            set 0 0 0 -1 -> 5
            BACK 0 0 = 0
            """);
    }

    private static void setRing() {
        run("4: set, ring", """
            link 0 0 2 1 -> 0
            link 0 0 1 1 -> 1
            link 0 0 2 0 -> 2
            makes 0 7
            set 0 0 5 -1 -> 1
            set 0 0 4 -1 -> 2
            set 1 4 6 -1 -> 1
            set 0 5 6 -1 -> 1
            set 0 6 1 -1 -> 1
            set 0 1 0 9 -> UnsupportedOperation
            PATH = 0 4 6 1
            set 1 1 0 -1 -> UnsupportedOperation
            ROW 1 1 =
            set 0 3 3 -1 -> UnsupportedOperation
            PATH = 3
            set 0 0 1 -1 -> 3
            set 0 1 0 -1 -> UnsupportedOperation
            PATH = 0 1
            set 2 1 0 -1 -> 1
            set 2 1 1 -1 -> 2
            set 0 0 2 9 -> IndexOutOfBounds
            PATH = 0 1
            set 1 2 6 -1 -> 1
            ROW 1 4 =
            set 1 6 2 -1 -> UnsupportedOperation
            PATH = 2 6
            BACK 1 6 = 2
            """);
    }

    private static void setFullRows() {
        run("4: set, full rows", """
            link 0 0 2 0 -> 0
            link 0 0 1 0 -> 1
            makes 0 30
            """ + Script.lines("set 0 0 %d -1 -> %d", 1, 13) + Script.lines("set 0 %d 20 -1 -> 1", 1, 13)
            + Script.lines("set 1 0 %d -1 -> %d", 1, 13) + """
            set 1 29 28 -1 -> 1
            set 0 0 13 -1 -> IllegalState
            set 0 0 13 13 -> IndexOutOfBounds
            set 0 0 13 12 -> IllegalState
            set 0 0 12 12 -> IndexOutOfBounds
            set 0 0 12 11 -> 12
            set 0 0 12 0 -> 12
            ROW 0 0 = 12 1 2 3 4 5 6 7 8 9 10 11
            set 0 13 20 -1 -> IllegalState
            set 0 13 20 1 -> IndexOutOfBounds
            ROW 0 13 =
            BACK 0 20 = 1 2 3 4 5 6 7 8 9 10 11 12
            set 1 0 28 -1 -> IllegalState
            BACK 1 28 = 29
            count 5 -> 37
            cut 0 0 3 -> 1
            set 0 0 13 6 -> 12
            ROW 0 0 = 12 1 2 4 5 6 13 7 8 9 10 11
            """);
    }

    private static void setWrong() {
        run("4: set, wrong inputs", """
            link 0 1 2 0 -> 0
            link 0 0 2 1 -> 1
            make 0 -> 0
            make 1 -> 1
            set -1 0 1 -1 -> IllegalArgument
            set 2 7 7 -1 -> IllegalArgument
            set 0 7 7 -2 -> IllegalArgument
            set 0 0 1 LEAST -> IllegalArgument
            set 0 0 1 MOST -> IndexOutOfBounds
            set 0 7 0 9 -> NoSuchElement
            set 0 1 7 9 -> NoSuchElement
            set 0 -1 1 9 -> NoSuchElement
            set 0 0 -1 9 -> NoSuchElement
            set 0 MOST 1 -1 -> NoSuchElement
            set 0 1 1 9 -> ClassCast
            set 0 0 0 9 -> ClassCast
            set 1 0 0 9 -> UnsupportedOperation
            count 5 -> 0
            """);
    }

    private static void cut() {
        run("5: cut", """
            link 0 1 2 1 -> 0
            link 0 1 2 0 -> 1
            makes 0 2
            makes 1 3
            set 0 0 2 -1 -> 1
            set 0 0 3 -1 -> 2
            set 0 0 4 -1 -> 3
            set 0 1 3 -1 -> 1
            set 1 0 3 -1 -> 1
            cut 0 0 3 -> 1
            cut 0 0 3 -> 0
            ROW 0 0 = 2 4
            BACK 0 3 = 1
            ROW 1 0 = 3
            count 5 -> 4
            count 1 -> 5
            cut 2 9 9 -> IllegalArgument
            cut -1 0 2 -> IllegalArgument
            cut 0 9 0 -> NoSuchElement
            cut 0 2 9 -> NoSuchElement
            cut 0 -1 2 -> NoSuchElement
            cut 0 2 2 -> ClassCast
            cut 0 0 0 -> ClassCast
            """);
    }

    private static void drop() {
        run("6: drop", """
            link 0 0 2 1 -> 0
            link 0 0 2 0 -> 1
            link 0 0 1 1 -> 2
            makes 0 8
            set 0 0 1 -1 -> 1
            set 0 0 2 -1 -> 2
            set 0 1 3 -1 -> 1
            set 0 2 3 -1 -> 1
            set 2 4 2 -1 -> 1
            set 0 3 5 -1 -> 1
            set 1 6 1 -1 -> 1
            set 1 1 6 -1 -> 1
            set 1 1 1 -1 -> 2
            drop 0 -> 2
            count 1 -> 6
            ROW 1 6 =
            BACK 1 6 =
            BACK 0 3 = 2
            count 5 -> 3
            drop 2 -> 3
            ROW 2 4 =
            count 5 -> 0
            ask 5 0 -> NoSuchElement
            drop 5 -> NoSuchElement
            drop -1 -> NoSuchElement
            drop 99 -> NoSuchElement
            drop 7 -> 1
            count 1 -> 2
            """);
        run("6: drop, who goes late takes his parts along", """
            link 0 0 2 1 -> 0
            makes 0 5
            set 0 4 0 -1 -> 1
            set 0 4 3 -1 -> 2
            set 0 3 2 -1 -> 1
            set 0 2 1 -1 -> 1
            set 0 0 1 -1 -> 1
            drop 3 -> 2
            count 1 -> 3
            drop 4 -> 3
            """);
    }

    private static void dropBarred() {
        run("6: drop, barred", """
            link 0 0 2 1 -> 0
            link 0 0 2 2 -> 1
            link 0 0 0 2 -> 2
            makes 0 12
            set 0 9 5 -1 -> 1
            set 0 9 4 -1 -> 2
            set 0 5 3 -1 -> 1
            set 0 4 3 -1 -> 1
            set 0 4 8 -1 -> 2
            set 1 3 9 -1 -> 1
            set 1 3 11 -1 -> 2
            set 1 3 10 -1 -> 3
            set 2 3 7 -1 -> 1
            set 1 8 10 -1 -> 1
            drop 9 -> IllegalState
            PATH = 9 4 3 7
            count 1 -> 12
            count 5 -> 10
            set 0 0 3 -1 -> 1
            drop 9 -> IllegalState
            PATH = 9 4 8 10
            set 1 5 0 -1 -> 1
            drop 9 -> IllegalState
            PATH = 9 5 0
            cut 1 5 0 -> 1
            cut 1 8 10 -> 1
            drop 9 -> 4
            BACK 0 3 = 0
            """);
        run("6: drop, barred twice", """
            link 0 0 2 1 -> 0
            link 0 0 2 2 -> 1
            makes 0 9
            set 0 8 3 -1 -> 1
            set 0 3 1 -1 -> 1
            set 0 8 5 -1 -> 2
            set 0 8 4 -1 -> 3
            set 1 1 0 -1 -> 1
            set 1 5 0 -1 -> 1
            set 1 4 7 -1 -> 1
            set 1 4 6 -1 -> 2
            drop 8 -> IllegalState
            PATH = 8 4 6
            """);
        run("6: drop, what is had by a link that bars goes freely", """
            link 0 1 2 2 -> 0
            make 0 -> 0
            make 1 -> 1
            set 0 0 1 -1 -> 1
            way 0 0 -> 0
            drop 1 -> 1
            PATH = 0
            ROW 0 0 =
            drop 0 -> 1
            """);
    }

    private static void copyRows() {
        run("7: copy", """
            link 0 0 1 1 -> 0
            link 0 0 2 1 -> 1
            link 0 0 2 0 -> 2
            link 0 0 1 0 -> 3
            link 0 0 0 2 -> 4
            link 0 0 2 2 -> 5
            makes 0 8
            set 0 5 2 -1 -> 1
            set 0 5 6 0 -> 2
            set 1 2 1 -1 -> 1
            set 1 6 1 -1 -> 1
            set 1 0 1 -1 -> 1
            set 0 7 5 -1 -> 1
            set 2 2 3 -1 -> 1
            set 2 2 6 -1 -> 2
            set 2 2 4 -1 -> 3
            set 2 3 2 -1 -> 1
            set 3 5 4 -1 -> 1
            set 3 5 6 -1 -> 2
            set 3 5 2 -1 -> 3
            set 4 6 3 -1 -> 1
            set 4 1 1 -1 -> 1
            set 5 6 7 -1 -> 1
            way 7 6 -> 2
            count 5 -> 16
            copy 5 -> 10
            PATH = 7 5 6
            count 1 -> 12
            count 2 -> 12
            count 5 -> 27
            ROW 0 10 = 11 9
            ROW 0 5 = 6 2
            BACK 0 10 =
            ROW 1 9 = 8
            ROW 1 11 = 8
            BACK 1 8 = 9 11
            BACK 1 1 = 2 6 0
            ROW 2 9 = 3 11 4
            BACK 2 3 = 2 9
            ROW 2 3 = 2
            ROW 3 10 = 11 9
            BACK 3 4 = 5
            ROW 4 11 =
            ROW 4 8 = 8
            ROW 5 11 = 7
            BACK 5 7 = 6 11
            drop 5 -> IllegalState
            PATH = 5 6 3
            cut 4 6 3 -> 1
            cut 5 6 7 -> 1
            drop 5 -> 3
            ROW 0 10 = 11 9
            copy 5 -> NoSuchElement
            copy -1 -> NoSuchElement
            """);
        run("7: copy, kinds and numbers", """
            link 0 1 1 1 -> 0
            make 1 -> 0
            make 0 -> 1
            make 1 -> 2
            set 0 1 2 -1 -> 1
            set 0 1 0 -1 -> 2
            copy 1 -> 4
            ask 3 0 -> 1
            ask 4 0 -> 0
            ask 5 0 -> 1
            ROW 0 4 = 5 3
            copy 0 -> 6
            ask 6 5 -> 0
            """);
    }

    private static void copyBackRows() {
        run("7: copy, who has them", """
            link 0 0 2 1 -> 0
            link 0 0 2 0 -> 1
            makes 0 7
            set 0 0 1 -1 -> 1
            set 0 0 2 -1 -> 2
            set 1 2 6 -1 -> 1
            set 1 5 6 -1 -> 1
            set 1 0 6 -1 -> 1
            set 1 1 6 -1 -> 1
            set 1 2 1 -1 -> 2
            set 1 5 1 -1 -> 2
            set 1 0 1 -1 -> 2
            set 1 2 6 1 -> 2
            copy 0 -> 7
            BACK 1 6 = 2 5 0 1 9 7 8
            BACK 1 8 = 9 7
            BACK 1 1 = 2 5 0
            ROW 1 9 = 8 6
            """);
    }

    private static void copyWithoutRoom() {
        run("7: copy, no room for the objects", """
            link 0 0 2 1 -> 0
            makes 0 98
            set 0 0 1 -1 -> 1
            copy 0 -> 98
            copy 0 -> IllegalState
            copy 5 -> IllegalState
            count 2 -> 100
            drop 50 -> 1
            copy 0 -> IllegalState
            copy 5 -> 100
            """);
        run("7: copy, a full row among the old ones takes no room", """
            link 0 0 2 1 -> 0
            link 0 0 2 0 -> 1
            makes 0 12
            """ + Script.lines("set 0 0 %d -1 -> %d", 1, 12) + Script.lines("set 1 %d 5 -1 -> 1", 0, 12) + """
            copy 0 -> 12
            BACK 1 17 = 12 13 14 15 16 17 18 19 20 21 22 23
            BACK 1 5 = 0 1 2 3 4 5 6 7 8 9 10 11
            """);
        run("7: copy, no room for a row", """
            link 0 0 2 1 -> 0
            link 0 0 2 2 -> 1
            makes 0 14
            set 0 0 1 -1 -> 1
            """ + Script.lines("set 1 %d 13 -1 -> 1", 0, 11) + """
            copy 0 -> IllegalState
            count 1 -> 14
            count 2 -> 14
            count 5 -> 12
            copy 5 -> 14
            copy 5 -> IllegalState
            cut 1 8 13 -> 1
            cut 1 9 13 -> 1
            copy 0 -> 15
            BACK 1 13 = 0 1 2 3 4 5 6 7 10 14 15 16
            """);
    }

    private static void alike() {
        run("8: alike", """
            link 0 0 2 1 -> 0
            link 0 1 2 1 -> 1
            link 0 0 2 0 -> 2
            makes 0 10
            makes 1 2
            alike 0 0 -> 1
            alike 0 1 -> 1
            alike 0 10 -> 0
            alike 10 11 -> 1
            set 2 0 5 -1 -> 1
            alike 0 1 -> 1
            set 0 0 2 -1 -> 1
            alike 0 1 -> 0
            set 0 1 3 -1 -> 1
            alike 0 1 -> 1
            set 1 2 10 -1 -> 1
            alike 0 1 -> 0
            alike 1 0 -> 0
            set 1 3 10 -1 -> 1
            alike 0 1 -> 1
            set 0 0 4 -1 -> 2
            set 0 1 4 0 -> 2
            alike 0 1 -> 0
            set 0 1 4 1 -> 2
            alike 0 1 -> 1
            alike 0 3 -> 0
            way 0 2 -> 1
            alike 0 99 -> NoSuchElement
            alike 99 0 -> NoSuchElement
            alike -1 -1 -> NoSuchElement
            PATH = 0 2
            """);
        run("8: alike, by the same link", """
            link 0 0 2 1 -> 0
            link 0 0 2 1 -> 1
            makes 0 4
            set 0 0 1 -1 -> 1
            set 1 2 3 -1 -> 1
            alike 0 2 -> 0
            """);
    }

    private static void at() {
        run("9: at", """
            link 0 1 2 0 -> 0
            make 0 -> 0
            makes 1 2
            at 0 0 0 -> IndexOutOfBounds
            set 0 0 2 -1 -> 1
            set 0 0 1 -1 -> 2
            at 0 0 0 -> 2
            at 0 0 1 -> 1
            at 0 0 2 -> IndexOutOfBounds
            at 0 0 -1 -> IndexOutOfBounds
            at 0 0 MOST -> IndexOutOfBounds
            at 0 0 LEAST -> IndexOutOfBounds
            at 1 9 0 -> IllegalArgument
            at -1 9 0 -> IllegalArgument
            at 0 9 -1 -> NoSuchElement
            at 0 -1 -1 -> NoSuchElement
            at 0 1 -1 -> ClassCast
            """);
    }

    private static void back() {
        run("10: back", """
            link 0 1 2 0 -> 0
            makes 0 2
            make 1 -> 2
            back 0 2 0 -> IndexOutOfBounds
            set 0 1 2 -1 -> 1
            set 0 0 2 -1 -> 1
            back 0 2 0 -> 1
            back 0 2 1 -> 0
            back 0 2 2 -> IndexOutOfBounds
            back 0 2 -1 -> IndexOutOfBounds
            back 0 2 MOST -> IndexOutOfBounds
            back 0 2 LEAST -> IndexOutOfBounds
            back 1 9 0 -> IllegalArgument
            back -1 9 0 -> IllegalArgument
            back 0 9 -1 -> NoSuchElement
            back 0 -1 -1 -> NoSuchElement
            back 0 0 -1 -> ClassCast
            """);
    }

    private static void ask() {
        run("11: ask", """
            link 0 0 2 1 -> 0
            link 0 0 1 1 -> 1
            link 0 0 2 0 -> 2
            makes 0 7
            make 7 -> 7
            set 0 0 1 -1 -> 1
            set 1 0 1 -1 -> 1
            set 0 1 2 -1 -> 1
            set 0 0 2 -1 -> 2
            set 0 2 3 -1 -> 1
            set 0 0 3 -1 -> 3
            set 0 4 3 -1 -> 1
            set 2 3 0 -1 -> 1
            set 2 3 3 -1 -> 2
            set 2 5 3 -1 -> 1
            set 2 3 5 -1 -> 3
            ask 7 0 -> 7
            ask 3 1 -> 3
            ask 1 1 -> 1
            ask 0 1 -> 0
            ask 0 2 -> 3
            ask 3 2 -> 0
            ask 3 3 -> 3
            ask 1 3 -> 1
            ask 0 3 -> 0
            ask 4 3 -> 0
            ask 0 4 -> 3
            ask 3 4 -> 0
            ask 0 5 -> 3
            ask 3 5 -> 5
            ask 6 5 -> 0
            ask 99 6 -> IllegalArgument
            ask 0 -1 -> IllegalArgument
            ask 99 0 -> NoSuchElement
            ask -1 5 -> NoSuchElement
            """);
    }

    private static void size() {
        run("12: size", """
            link 0 1 2 0 -> 0
            makes 0 2
            makes 1 3
            set 0 0 2 -1 -> 1
            set 0 0 3 -1 -> 2
            set 0 1 3 -1 -> 1
            size 0 0 0 -> 2
            size 0 1 0 -> 1
            size 0 3 1 -> 2
            size 0 4 1 -> 0
            size 1 9 0 -> IllegalArgument
            size -1 0 0 -> IllegalArgument
            size 0 9 2 -> IllegalArgument
            size 0 9 -1 -> IllegalArgument
            size 0 9 0 -> NoSuchElement
            size 0 -1 1 -> NoSuchElement
            size 0 0 1 -> ClassCast
            size 0 2 0 -> ClassCast
            """);
    }

    private static void way() {
        run("13: way", """
            link 0 0 2 1 -> 0
            link 0 0 1 1 -> 1
            link 0 0 2 0 -> 2
            makes 0 9
            set 0 8 7 -1 -> 1
            set 1 8 6 -1 -> 1
            set 0 7 1 -1 -> 1
            set 0 6 2 -1 -> 1
            set 0 1 0 -1 -> 1
            set 0 2 0 -1 -> 1
            set 2 8 0 -1 -> 1
            way 8 0 -> 3
            PATH = 8 6 2 0
            way 8 8 -> 0
            PATH = 8
            set 0 7 0 -1 -> 2
            way 8 0 -> 2
            PATH = 8 7 0
            way 99 0 -> NoSuchElement
            way 0 -1 -> NoSuchElement
            PATH = 8 7 0
            way 0 8 -> -1
            PATH =
            way 8 5 -> -1
            """);
    }

    private static void path() {
        run("14: path", """
            link 0 0 2 1 -> 0
            makes 0 3
            set 0 0 1 -1 -> 1
            set 0 1 2 -1 -> 1
            path 0 -> IndexOutOfBounds
            way 0 2 -> 2
            path 0 -> 0
            path 2 -> 2
            path 3 -> IndexOutOfBounds
            path -1 -> IndexOutOfBounds
            path MOST -> IndexOutOfBounds
            path LEAST -> IndexOutOfBounds
            drop 0 -> 3
            PATH = 0 1 2
            """);
    }

    private static void levels() {
        run("15, 16: begin and end", """
            link 0 0 2 1 -> 0
            makes 0 4
            set 0 0 1 -1 -> 1
            set 0 0 2 -1 -> 2
            end false -> IllegalState
            begin -> 1
            set 0 0 2 0 -> 2
            begin -> 2
            drop 0 -> 3
            make 5 -> 4
            count 1 -> 2
            end false -> 1
            ROW 0 0 = 2 1
            ask 4 0 -> NoSuchElement
            make 5 -> 5
            begin -> 2
            cut 0 0 1 -> 1
            end true -> 1
            ROW 0 0 = 2
            BACK 0 1 =
            end false -> 0
            ROW 0 0 = 1 2
            BACK 0 1 = 0
            count 1 -> 4
            count 2 -> 6
            count 5 -> 2
            end true -> IllegalState
            make 0 -> 6
            begin -> 1
            drop 6 -> 1
            make 9 -> 7
            end false -> 0
            ask 6 0 -> 0
            ask 7 0 -> NoSuchElement
            begin -> 1
            drop 6 -> 1
            end true -> 0
            ask 6 0 -> NoSuchElement
            """);
        run("15: begin, at most 12", Script.lines("begin -> %d", 1, 13) + """
            begin -> IllegalState
            count 3 -> 12
            make 0 -> 0
            end true -> 11
            end true -> 10
            begin -> 11
            drop 0 -> 1
            end false -> 10
            ask 0 0 -> 0
            end false -> 9
            ask 0 0 -> NoSuchElement
            """);
    }

    private static void levelsAndLinks() {
        run("2, 16: a link stays told, a path stays, rows do not", """
            makes 0 2
            begin -> 1
            link 0 0 2 1 -> 0
            set 0 0 1 -1 -> 1
            way 0 1 -> 1
            end false -> 0
            count 0 -> 1
            ROW 0 0 =
            BACK 0 1 =
            PATH = 0 1
            link 0 0 2 1 -> 1
            begin -> 1
            ROW 0 0 =
            """);
    }

    private static void count() {
        run("17: count", """
            link 0 0 2 1 -> 0
            link 0 0 2 0 -> 1
            makes 0 4
            set 0 0 1 -1 -> 1
            set 1 0 1 -1 -> 1
            set 1 2 2 -1 -> 1
            drop 3 -> 1
            begin -> 1
            way 0 1 -> 1
            count 0 -> 2
            count 1 -> 3
            count 2 -> 4
            count 3 -> 1
            count 4 -> 2
            count 5 -> 3
            count -1 -> IllegalArgument
            count 6 -> IllegalArgument
            set 0 0 1 0 -> 1
            count 5 -> 3
            cut 1 0 1 -> 1
            cut 1 0 1 -> 0
            count 5 -> 2
            end false -> 0
            count 5 -> 3
            """);
    }

    /** Every place of a row of 12 is read, filled and left once: the rows are packed inside. */
    private static void rowsToTheirEnds() {
        run("rows to their ends", """
            link 0 0 2 0 -> 0
            makes 0 100
            set 0 99 88 0 -> 1
            set 0 99 89 0 -> 2
            set 0 99 90 0 -> 3
            set 0 99 91 0 -> 4
            set 0 99 92 0 -> 5
            set 0 99 93 0 -> 6
            set 0 99 94 0 -> 7
            set 0 99 95 0 -> 8
            set 0 99 96 0 -> 9
            set 0 99 97 0 -> 10
            set 0 99 98 0 -> 11
            set 0 99 99 0 -> 12
            ROW 0 99 = 99 98 97 96 95 94 93 92 91 90 89 88
            set 0 99 99 -1 -> 12
            ROW 0 99 = 98 97 96 95 94 93 92 91 90 89 88 99
            set 0 99 93 6 -> 12
            ROW 0 99 = 98 97 96 95 94 92 93 91 90 89 88 99
            drop 99 -> 1
            count 5 -> 0
            """);
    }

    /** So many ways lead down that walking each of them would never end. */
    private static void manyWays() {
        StringBuilder text = new StringBuilder("link 0 0 2 1 -> 0\nmakes 0 100\n");
        for (int x = 0; x < 98; x++) {
            text.append("set 0 ").append(x).append(' ').append(x + 1).append(" -1 -> 1\n");
            text.append("set 0 ").append(x).append(' ').append(x + 2).append(" -1 -> 2\n");
        }
        run("many ways", text + """
            set 0 98 99 -1 -> 1
            ask 0 2 -> 99
            ask 99 3 -> 99
            way 0 99 -> 50
            path 1 -> 1
            path 2 -> 3
            alike 0 1 -> 0
            alike 0 0 -> 1
            set 0 99 0 -1 -> UnsupportedOperation
            count 4 -> 51
            copy 0 -> IllegalState
            begin -> 1
            drop 60 -> 1
            way 0 61 -> 31
            end false -> 0
            cut 0 50 51 -> 1
            cut 0 50 52 -> 1
            cut 0 49 51 -> 1
            drop 0 -> 51
            copy 51 -> 100
            alike 51 100 -> 1
            alike 52 101 -> 1
            alike 51 101 -> 0
            ask 148 3 -> 48
            """);
    }
}
