/** Each call with each wrong number in each of its places; Script looks at the state behind each of them. */
final class SentencesOfRefusedCalls {
    /**
     * LINK 0 leads from KIND 0 to KIND 1, LINK 1 from 1 to 0 and OWNS. There are 0 and 1 of KIND 0, 2 and 3 of KIND 1;
     * 4 is dropped, 5 and its making are taken back, 6 is not yet given.
     */
    private static final String HOUSE = """
        link 0 1 2 0 -> 0
        link 1 0 1 1 -> 1
        makes 0 2
        makes 1 2
        set 0 0 2 -1 -> 1
        set 0 0 3 -1 -> 2
        set 1 2 1 -1 -> 1
        way 2 1 -> 1
        make 0 -> 4
        drop 4 -> 1
        begin -> 1
        make 0 -> 5
        end false -> 0
        begin -> 1
        """;

    private static final String[] NOT_THERE = {"4", "5", "6", "-1", "100", "LEAST", "MOST"};
    private static final String[] NOT_TOLD = {"-1", "2", "9", "10", "LEAST", "MOST"};

    private static final String WITH_OBJECT = """
        set 0 ? 2 -1 -> NoSuchElement
        set 0 0 ? -1 -> NoSuchElement
        set 0 ? ? -1 -> NoSuchElement
        cut 0 ? 2 -> NoSuchElement
        cut 0 0 ? -> NoSuchElement
        drop ? -> NoSuchElement
        copy ? -> NoSuchElement
        alike ? 0 -> NoSuchElement
        alike 0 ? -> NoSuchElement
        alike ? ? -> NoSuchElement
        at 0 ? 0 -> NoSuchElement
        back 0 ? 0 -> NoSuchElement
        ask ? 0 -> NoSuchElement
        ask ? 5 -> NoSuchElement
        size 0 ? 0 -> NoSuchElement
        size 0 ? 1 -> NoSuchElement
        way ? 0 -> NoSuchElement
        way 0 ? -> NoSuchElement
        way ? ? -> NoSuchElement
        """;

    private static final String WITH_LINK = """
        set ? 0 2 -1 -> IllegalArgument
        cut ? 0 2 -> IllegalArgument
        at ? 0 0 -> IllegalArgument
        back ? 2 0 -> IllegalArgument
        size ? 0 0 -> IllegalArgument
        size ? 2 1 -> IllegalArgument
        """;

    private static final String OF_ANOTHER_KIND = """
        set 0 2 2 -1 -> ClassCast
        set 0 0 0 -1 -> ClassCast
        set 0 2 0 -1 -> ClassCast
        set 1 0 0 -1 -> ClassCast
        set 1 2 2 -1 -> ClassCast
        set 1 0 2 -1 -> ClassCast
        cut 0 2 2 -> ClassCast
        cut 0 0 0 -> ClassCast
        cut 0 2 0 -> ClassCast
        cut 1 1 2 -> ClassCast
        at 0 2 0 -> ClassCast
        at 1 0 0 -> ClassCast
        back 0 0 0 -> ClassCast
        back 1 2 0 -> ClassCast
        size 0 2 0 -> ClassCast
        size 0 0 1 -> ClassCast
        size 1 0 0 -> ClassCast
        size 1 2 1 -> ClassCast
        """;

    /** What must still be so behind all of them, and what the LEVEL goes back to. */
    private static final String AS_IT_WAS = """
        PATH = 2 1
        ROW 0 0 = 2 3
        BACK 0 2 = 0
        ROW 1 2 = 1
        make 0 -> 6
        drop 2 -> 2
        end false -> 0
        ROW 0 0 = 2 3
        BACK 0 2 = 0
        ROW 1 2 = 1
        make 0 -> 7
        count 1 -> 5
        """;

    private final Sentences document;

    private SentencesOfRefusedCalls(Sentences document) {
        this.document = document;
    }

    static void all(Sentences document) {
        SentencesOfRefusedCalls refused = new SentencesOfRefusedCalls(document);
        refused.objects();
        refused.links();
        refused.kinds();
    }

    private static String with(String number, String calls) {
        return HOUSE + calls.replace("?", number) + AS_IT_WAS;
    }

    private void objects() {
        for (String number : NOT_THERE) {
            document.says("NoSuchElementException: an OBJECT that is not there", with(number, WITH_OBJECT));
        }
    }

    private void links() {
        for (String number : NOT_TOLD) {
            document.says("IllegalArgumentException: a number out of range (l and KINDS too; a LINK that is not told)",
                with(number, WITH_LINK));
        }
    }

    private void kinds() {
        document.says("ClassCastException: one of another KIND than the LINK asks there", with("", OF_ANOTHER_KIND));
    }
}
