import java.util.List;

/**
 * Promises 11, 21 and 29 again: books whose references push one another for many rounds. They were
 * found by search; each is told as in Drafts, its chapter ahead of each item, H1 for a head that
 * needs one row. Each answer is compared with that of PlainBook.
 */
public final class RoundsTest extends Both {

    private record Book(int width, int depth, boolean isByPage, List<String> items) { }

    private static final Due due = new Due("RoundsTest");

    private void put(String words) {
        for (String word : words.split(" ")) {
            int[] parts = Drafts.parts(word);
            if (parts[1] == Drafts.REFERENCE) {
                refer(parts[2]);
            } else {
                word(parts[0], parts[1], parts[2]);
            }
        }
    }

    private void build(Book book) {
        measures(book.width, book.depth);
        byPage(book.isByPage);
        for (String item : book.items) {
            int chapter = item.charAt(0) - '0';
            String words = item.substring(2);
            if (words.charAt(0) == 'H') {
                head(chapter, 0, words.charAt(1) - '0');
            } else {
                put(words);
                paragraph(chapter);
            }
        }
    }

    private void tellAll() {
        tellBook();
        for (int p = 1; p <= other.pages.size(); p++) {
            tellPage(p, true);
            tellOnPage(p, 0);
            tellOnPage(p, 4);
        }
        for (int c = 0; c < 3; c++) {
            cost(c);
            for (int i = 0; i < other.chapters.get(c).size(); i++) {
                tellItem(c, i);
                for (int w = 0; w < other.words(c, i); w++) {
                    if (other.chapters.get(c).get(i).words.get(w).kind() > 0) {
                        tellWord(c, i, w);
                    }
                }
            }
        }
    }

    private void tellAgain(Book book) {
        String words = book.items.get(0).substring(2);
        int chapter = book.items.get(0).charAt(0) - '0';
        print();
        compose(true);
        tellBook();
        put(words);
        replace(chapter, 0);
        compose(true);
        tellBook();
        byPage(!book.isByPage);
        compose(false);
        tellBook();
    }

    /** Composes a book, and compares all that it tells; endless are twelve that differ. */
    private static void isComposed(Book book, int rounds, int broken, boolean isSettled,
            boolean isEndless) {
        RoundsTest test = new RoundsTest();
        test.build(book);
        due.is("compose(false)", test.compose(false), String.valueOf(rounds));
        due.is("broken()", test.one.broken(), broken);
        due.is("isSettled()", test.one.isSettled(), isSettled);
        due.is("twelve rounds without an end", test.other.endless, isEndless);
        test.tellAll();
        test.tellAgain(book);
    }

    private static void nineRounds() {
        due.sentence("11, 21", "If that is what it took, it was the last one");
        isComposed(new Book(8, 8, false, List.of(
            "0 1L8 R4 R6 R0 R5 R0 R4 3L0 R2 R7 4L4 R5 R0 R6 2F5 3L6 3L2")), 9, 9, false, false);
    }

    private static void justTwelveRounds() {
        due.sentence("11, 21, 29", "if twelve rounds were made without an end");
        isComposed(new Book(8, 9, false, List.of(
            "1 R1 8 4N2 R4 R0 R3 2L7 R7 R8 R0",
            "1 R1 R7 R0 1N1 5L0 R9 R2 2L3 7L2 R2 1N3 R8 R9 4")), 12, 21, false, false);
    }

    private static void ringsByPages() {
        due.sentence("11, 21, 29", "there is a ring: all rounds from that one on");
        isComposed(new Book(14, 8, true, List.of(
            "1 6N3 R6 6F5 R7 5N1 R3 1L6 5L3 R0 R6 R3",
            "1 7L7 5F2")), 9, 10, true, false);
        isComposed(new Book(8, 10, true, List.of(
            "0 3N3 3F5 R6 R7 8L7 R2 R3 R7 R0 1F5 4",
            "0 R8 7L3",
            "0 4N2 R5 1N3 R1 2L1 R8 R6 R8")), 12, 22, true, false);
    }

    private static void twelfthRoundThatWasTaken() {
        due.sentence("11, 21, 29", "If that was taken in some round already");
        isComposed(new Book(12, 9, true, List.of(
            "2 6L1 8L4 7L3 R6 6 8 5N3 R6 6L6 1L9 R9",
            "2 H1",
            "2 6L2 R4 R9 R6 R2 R9 6L5 7 R6 R5 R3",
            "2 H3")), 13, 23, true, false);
    }

    private static void twelveRoundsWithoutAnEnd() {
        due.sentence("11, 21, 29", "all of them are the ring");
        isComposed(new Book(11, 9, false, List.of(
            "2 4F4 R8 R9 R4 1 2L3 7N1 R3",
            "2 3 1L2 R3 R8 4 R2 3L7 1L6 8L8 1",
            "2 5L4 R7 4L1 R2 R4",
            "2 6")), 13, 39, true, true);
    }

    public static void main(String[] args) {
        nineRounds();
        justTwelveRounds();
        ringsByPages();
        twelfthRoundThatWasTaken();
        twelveRoundsWithoutAnEnd();
        due.end();
    }
}
