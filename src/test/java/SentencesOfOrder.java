/**
 * 'What is thrown, in this order': for each call, each two faults that can meet in it. (drop, alike, way, path, begin,
 * end and count have no two that can meet.)
 */
final class SentencesOfOrder {
    private static final String ORDER = "What is thrown, in this order: IllegalArgumentException: a number out of range"
        + " (l and KINDS too; a LINK that is not told); NoSuchElementException: an OBJECT that is not there;"
        + " ClassCastException: one of another KIND than the LINK asks there; then as told.";
    private static final String OF_SET = "looked at in this order: RING; i above the end of what is left:"
        + " IndexOutOfBoundsException; a row (x's, y's) that would have more than 12: IllegalStateException.";

    /** LINK 0 leads from KIND 0 to KIND 1, LINK 1 from 0 to 0 and OWNS; 0 and 1 are of KIND 0, 2 and 3 of KIND 1. */
    private static final String HOUSE = """
        link 0 1 2 0 -> 0
        link 0 0 2 1 -> 1
        makes 0 2
        makes 1 2
        """;

    private final Sentences document;

    private SentencesOfOrder(Sentences document) {
        this.document = document;
    }

    static void all(Sentences document) {
        SentencesOfOrder order = new SentencesOfOrder(document);
        order.full();
        order.set();
        order.setRing();
        order.setFullRows();
        order.setKindBeforeTheRest();
        order.cut();
        order.copy();
        order.places();
        order.questions();
    }

    private void full() {
        document.says(ORDER, Script.lines("link 0 0 0 0 -> %d", 0, 10) + """
            link 0 0 0 0 -> IllegalState
            link -1 0 0 0 -> IllegalArgument
            link 10 0 0 0 -> IllegalArgument
            link 0 -1 0 0 -> IllegalArgument
            link 0 10 0 0 -> IllegalArgument
            link 0 0 -1 0 -> IllegalArgument
            link 0 0 3 0 -> IllegalArgument
            link 0 0 0 -1 -> IllegalArgument
            link 0 0 0 3 -> IllegalArgument
            """, "makes 0 100\n" + """
            make 9 -> IllegalState
            make -1 -> IllegalArgument
            make 10 -> IllegalArgument
            """);
    }

    private void set() {
        document.says(ORDER, HOUSE + """
            set 2 9 9 -1 -> IllegalArgument
            set -1 9 2 -1 -> IllegalArgument
            set 2 0 9 9 -> IllegalArgument
            set 2 2 2 -1 -> IllegalArgument
            set 2 0 0 99 -> IllegalArgument
            set 0 9 9 -2 -> IllegalArgument
            set 0 9 2 -2 -> IllegalArgument
            set 0 0 9 -2 -> IllegalArgument
            set 0 2 2 -2 -> IllegalArgument
            set 0 0 0 -2 -> IllegalArgument
            set 1 0 0 -2 -> IllegalArgument
            set 0 0 2 -2 -> IllegalArgument
            set 0 9 0 -1 -> NoSuchElement
            set 0 2 9 -1 -> NoSuchElement
            set 0 9 9 99 -> NoSuchElement
            set 0 9 2 99 -> NoSuchElement
            set 0 0 9 99 -> NoSuchElement
            set 0 2 2 99 -> ClassCast
            set 0 0 0 99 -> ClassCast
            set 0 2 0 99 -> ClassCast
            set 1 0 2 99 -> ClassCast
            set 0 0 2 1 -> IndexOutOfBounds
            set 0 0 2 0 -> 1
            set 0 0 2 -2 -> IllegalArgument
            """);
    }

    private void setRing() {
        document.says(OF_SET, """
            link 0 0 1 1 -> 0
            link 0 0 2 1 -> 1
            makes 0 30
            set 0 0 1 -1 -> 1
            set 1 1 0 99 -> UnsupportedOperation
            set 1 1 1 99 -> UnsupportedOperation
            set 1 1 0 -2 -> IllegalArgument
            """ + rowOfTwelve() + """
            set 1 1 2 -1 -> IllegalState
            set 1 1 2 13 -> IndexOutOfBounds
            set 1 1 0 -1 -> UnsupportedOperation
            PATH = 0 1
            set 1 1 0 13 -> UnsupportedOperation
            set 1 1 1 -1 -> UnsupportedOperation
            PATH = 1
            """, "link 0 0 1 1 -> 0\nlink 0 0 2 1 -> 1\nmakes 0 20\n" + Script.lines("set 1 %d 0 -1 -> 1", 1, 13) + """
            set 0 0 13 -1 -> 1
            set 1 14 0 -1 -> IllegalState
            set 1 14 0 1 -> IndexOutOfBounds
            set 1 13 0 -1 -> UnsupportedOperation
            PATH = 0 13
            set 1 13 0 1 -> UnsupportedOperation
            """);
    }

    private static String rowOfTwelve() {
        StringBuilder all = new StringBuilder();
        for (int n = 0; n < 12; n++) {
            all.append("set 1 1 %d -1 -> %d%n".formatted(10 + n, n + 1));
        }
        return all.toString();
    }

    private void setFullRows() {
        document.says(OF_SET, "link 0 0 2 0 -> 0\nmakes 0 30\n" + Script.lines("set 0 0 %d -1 -> %d", 1, 13)
            + Script.lines("set 0 %d 20 -1 -> 1", 1, 13) + """
            set 0 0 13 12 -> IllegalState
            set 0 0 13 13 -> IndexOutOfBounds
            set 0 0 13 MOST -> IndexOutOfBounds
            set 0 13 20 0 -> IllegalState
            set 0 13 20 1 -> IndexOutOfBounds
            set 0 13 20 MOST -> IndexOutOfBounds
            set 0 0 20 -1 -> IllegalState
            set 0 0 20 13 -> IndexOutOfBounds
            set 0 0 20 -2 -> IllegalArgument
            set 0 0 99 -1 -> NoSuchElement
            set 0 99 20 -1 -> NoSuchElement
            """);
    }

    private void setKindBeforeTheRest() {
        document.says(ORDER, """
            link 0 0 2 1 -> 0
            link 0 1 2 1 -> 1
            link 1 1 2 1 -> 2
            makes 0 2
            makes 1 2
            set 1 0 2 -1 -> 1
            set 0 2 0 -1 -> ClassCast
            set 2 2 0 -1 -> ClassCast
            count 4 -> 0
            """, "link 0 1 2 0 -> 0\nmakes 0 13\nmakes 1 13\n" + Script.lines("set 0 %d 13 -1 -> 1", 0, 12) + """
            set 0 14 13 -1 -> ClassCast
            set 0 12 13 -1 -> IllegalState
            """ + "set 0 0 14 -1 -> 2\n" + restOfRow() + """
            set 0 0 12 -1 -> ClassCast
            set 0 0 25 -1 -> IllegalState
            """);
    }

    private static String restOfRow() {
        StringBuilder all = new StringBuilder();
        for (int n = 2; n < 12; n++) {
            all.append("set 0 0 %d -1 -> %d%n".formatted(13 + n, n + 1));
        }
        return all.toString();
    }

    private void cut() {
        document.says(ORDER, HOUSE + """
            cut 2 9 9 -> IllegalArgument
            cut -1 9 9 -> IllegalArgument
            cut 2 2 2 -> IllegalArgument
            cut 0 9 0 -> NoSuchElement
            cut 0 2 9 -> NoSuchElement
            cut 0 2 2 -> ClassCast
            cut 0 0 0 -> ClassCast
            cut 0 2 0 -> ClassCast
            cut 0 0 2 -> 0
            """);
    }

    private void copy() {
        document.says(ORDER, "makes 0 100\n" + """
            copy 0 -> IllegalState
            copy 100 -> NoSuchElement
            copy -1 -> NoSuchElement
            """);
    }

    private void places() {
        document.says(ORDER, HOUSE + """
            at 2 9 0 -> IllegalArgument
            at 2 2 0 -> IllegalArgument
            at 2 0 99 -> IllegalArgument
            at 0 9 99 -> NoSuchElement
            at 0 9 -1 -> NoSuchElement
            at 0 2 99 -> ClassCast
            at 0 2 -1 -> ClassCast
            at 0 0 0 -> IndexOutOfBounds
            back 2 9 0 -> IllegalArgument
            back 2 0 0 -> IllegalArgument
            back 2 2 99 -> IllegalArgument
            back 0 9 99 -> NoSuchElement
            back 0 9 -1 -> NoSuchElement
            back 0 0 99 -> ClassCast
            back 0 0 -1 -> ClassCast
            back 0 2 0 -> IndexOutOfBounds
            """);
    }

    private void questions() {
        document.says(ORDER, HOUSE + """
            ask 9 6 -> IllegalArgument
            ask 9 -1 -> IllegalArgument
            ask 9 5 -> NoSuchElement
            size 2 9 0 -> IllegalArgument
            size 2 2 0 -> IllegalArgument
            size 0 9 2 -> IllegalArgument
            size 0 9 -1 -> IllegalArgument
            size 0 2 2 -> IllegalArgument
            size 0 0 -1 -> IllegalArgument
            size 0 9 0 -> NoSuchElement
            size 0 9 1 -> NoSuchElement
            size 0 2 0 -> ClassCast
            size 0 0 1 -> ClassCast
            size 0 0 0 -> 0
            size 0 2 1 -> 0
            """);
    }
}
