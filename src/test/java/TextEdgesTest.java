import java.util.function.IntFunction;

/** The edges of texts, numbers, running heads and margins: the promises 30 to 33. */
public final class TextEdgesTest {

    private static final int LEAST = Integer.MIN_VALUE;
    private static final int MOST = Integer.MAX_VALUE;
    private static final String EIGHT = Drafts.eights(8);

    private static final Due due = new Due("TextEdgesTest");

    private TextEdgesTest() { }

    /** A book of one chapter, lines 8 wide and pages of eight rows. */
    private static Facingleaf composed(String... paragraphs) {
        Facingleaf x = Drafts.book(8, 8);
        for (String words : paragraphs) {
            Drafts.paragraph(x, 0, words);
        }
        due.is("it is composed", x.compose(false) > 0, true);
        return x;
    }

    private static void isText(Facingleaf x, int chapter, int item, int word, int want) {
        due.is("textOf(" + chapter + ", " + item + ", " + word + ")",
            x.textOf(chapter, item, word), want);
    }

    private static void noReference() {
        due.sentence("30", "-1 if the word is no reference");
        Facingleaf x = composed("1 1L1 1N1 1F2 1E3 1M1", "R1");
        for (int w = 0; w < 6; w++) {
            isText(x, 0, 0, w, -1);
        }
        isText(x, 0, 1, 0, 1);
    }

    private static void noLabel() {
        due.sentence("30", "0 if no word has the label");
        Facingleaf x = composed("R3 1L2 1N3 1F3 1E3 1M3");
        isText(x, 0, 0, 0, 0);
        Drafts.paragraph(x, 2, "1L3");
        x.compose(false);
        isText(x, 0, 0, 0, 13);
        Drafts.replace(x, 2, 0, "1L4");
        x.compose(false);
        isText(x, 0, 0, 0, 0);
    }

    private static void aboveOrBelow() {
        due.sentence("30", "1 above or below");
        Facingleaf x = composed("R1 8 8 8 8 8 8 8L1");
        isText(x, 0, 0, 0, 1);
        x = composed("8L1 8 8 8 8 8 8 R1");
        isText(x, 0, 0, 7, 1);
        x = composed(EIGHT, "8 R1 8L1");
        isText(x, 0, 1, 1, 1);
    }

    private static void overleaf() {
        due.sentence("30", "2 overleaf");
        Facingleaf x = composed("8 8 8 8 8 8 8 R2", "8L2 8 8 8 8 8 8 R3", "8L3 8 8 8 8 8 8 R2",
            "8 8 8 8 8 8 8 R3");
        isText(x, 0, 0, 7, 2);
        x = composed(EIGHT, EIGHT, "8 8 8 8 8 8 8 R2", "8L2 8 8 8 8 8 8 R3", "8L3 8");
        due.is("page 4 from page 3", x.textOf(0, 2, 7), 2);
        due.is("page 5 from page 4", x.textOf(0, 3, 7), 15);
        x = composed("8 8 8 8 8 8 8 R2", "8L2 8 8 8 8 8 8 R3", "8L3 8 8 8 8 8 8 R2",
            "8 8 8 8 8 8 8 R3");
        due.sentence("30", "10 and the page");
        // page 3 from page 2, page 2 from page 3, page 3 from page 4
        isText(x, 0, 1, 7, 13);
        isText(x, 0, 2, 7, 12);
        isText(x, 0, 3, 7, 13);
        // page 4, that is two pages further on
        x = composed("R4 8 8 8 8 8 8 8", EIGHT, EIGHT, "8L4 8 8 8 8 8 8 8");
        isText(x, 0, 0, 0, 14);
        // page 3 of the next chapter from page 2, and from page 1
        x = composed("R4 8 8 8 8 8 8 8", "R4 8");
        Drafts.paragraph(x, 1, "8L4");
        x.compose(false);
        isText(x, 0, 0, 0, 13);
        isText(x, 0, 1, 0, 13);
    }

    private static void noNote() {
        due.sentence("31", "0 if it has none");
        Facingleaf x = composed("1 1L1 1F2 1E3 1M1 R1 1N1");
        for (int w = 0; w < 6; w++) {
            due.is("noteOf(0, 0, " + w + ")", x.noteOf(0, 0, w), 0);
        }
        due.is("the one note", x.noteOf(0, 0, 6), 1);
    }

    private static void numberedByChapters() {
        due.sentence("31", "Notes of a chapter are numbered from 1 on");
        Facingleaf x = Drafts.book(8, 8);
        Drafts.paragraph(x, 0, "7N1 7N1 7N1 7N1 7N1");
        Drafts.paragraph(x, 0, "7N1 7N1 7N1 6N1 6N1 6N1 6N1");
        Drafts.paragraph(x, 2, "7N1 8 7N1");
        x.compose(false);
        due.is("they are on several pages", x.pageOf(0, true) > 1, true);
        due.is("the first one", x.noteOf(0, 0, 0), 1);
        due.is("the first one of an item", x.noteOf(0, 1, 0), 6);
        due.is("the twelfth one", x.noteOf(0, 1, 6), 12);
        due.is("the first one of another chapter", x.noteOf(2, 0, 0), 1);
        due.is("its second one", x.noteOf(2, 0, 2), 2);
    }

    private static void numberedByPages() {
        due.sentence("31", "if notes go by pages, those of the words on each page are, from 1 on");
        Facingleaf x = Drafts.book(8, 8);
        x.setByPage(true);
        // page 1: two rows and five lines; page 2: three rows, the three lines left, and one
        Drafts.paragraph(x, 0, "7N4 7N4");
        Drafts.paragraph(x, 0, "8 7N1 8");
        Drafts.paragraph(x, 2, "7N1");
        x.compose(false);
        due.is("pageOfRow(0, 1)", x.pageOfRow(0, 1), 1);
        due.is("pageOfRow(0, 2)", x.pageOfRow(0, 2), 2);
        due.is("lines on page 2", x.onPage(2, 2), 4);
        due.is("the first one of page 1", x.noteOf(0, 0, 0), 1);
        due.is("the second one, whose lines go over", x.noteOf(0, 0, 1), 2);
        due.is("the first one of page 2", x.noteOf(0, 1, 1), 1);
        due.is("the first one of chapter 2", x.noteOf(2, 0, 0), 1);
    }

    private static void isHead(Facingleaf x, int page, int first, int last) {
        due.is("headOf(" + page + ", false)", x.headOf(page, false), first);
        due.is("headOf(" + page + ", true)", x.headOf(page, true), last);
    }

    private static void firstAndLastHead() {
        due.sentence("32", "of its heads the first or the last one");
        Facingleaf x = Drafts.book(8, 8);
        x.head(0, 0, 1);
        x.compose(false);
        isHead(x, 3, 0, 0);
        x.head(0, 1, 1);
        x.compose(false);
        isHead(x, 3, 0, 1);
        x.head(0, 0, 1);
        x.compose(false);
        isHead(x, 3, 0, 2);
    }

    private static void headAheadOfThePage() {
        due.sentence("32", "if it has none, the last one ahead of its rows in the chapter");
        Facingleaf x = Drafts.book(8, 8);
        x.head(0, 0, 1);
        x.head(0, 0, 1);
        Drafts.rows(x, 0, 4);
        Drafts.rows(x, 0, 8);
        x.head(0, 0, 1);
        Drafts.rows(x, 0, 1);
        Drafts.rows(x, 1, 1);
        x.compose(false);
        // contents, two heads and four rows, eight rows, a head and a row, blank, chapter 1
        isHead(x, 3, 0, 1);
        isHead(x, 4, 1, 1);
        isHead(x, 5, 4, 4);
        isHead(x, 7, -1, -1);
        // the one head is the first row of the chapter
        x = Drafts.book(8, 8);
        x.head(1, 0, 1);
        Drafts.rows(x, 1, 6);
        Drafts.rows(x, 1, 8);
        x.compose(false);
        isHead(x, 3, 0, 0);
        isHead(x, 4, 0, 0);
    }

    private static void noHead() {
        due.sentence("32", "-1 if there is none, or the page is not of a chapter");
        Facingleaf x = Drafts.book(8, 8);
        Drafts.rows(x, 0, 8);
        x.head(1, 0, 1);
        Drafts.paragraph(x, 1, "8E0");
        Drafts.rows(x, 2, 7);
        x.head(2, 0, 1);
        x.compose(false);
        int[] kinds = {3, 3, 0, 4, 1, 4, 2, 2, 5};
        for (int p = 1; p <= 9; p++) {
            due.is("kindOf(" + p + ")", x.kindOf(p), kinds[p - 1]);
            // the head of page 8 is behind page 7
            int head = p == 5 ? 0 : p == 8 ? 1 : -1;
            isHead(x, p, head, head);
        }
    }

    private static void headOfAPageWithoutRows() {
        due.sentence("32", "the last one ahead of its rows");
        Facingleaf x = Drafts.book(8, 8);
        x.head(0, 0, 1);
        x.head(0, 0, 1);
        Drafts.paragraph(x, 0, "2F2 2F2 2F2");
        x.compose(false);
        int last = x.pageOf(0, true);
        due.is("a page without rows", x.onPage(last, 0), 0);
        isHead(x, last, 1, 1);
        x = composed("2F2 2F2 2F2");
        isHead(x, 2, -1, -1);
    }

    private static void pageOfAHead() {
        due.sentence("32", "there is no such page");
        Facingleaf x = Drafts.book(8, 8);
        due.areThrown(Due.INDEX, "not composed, a page", p -> x.headOf(p, false), 0, -1, LEAST);
        due.areThrown(Due.STATE, "not composed, a page", p -> x.headOf(p, true), 1, 99, MOST);
        Drafts.rows(x, 0, 9);
        x.compose(false);
        due.areThrown(Due.INDEX, "a page", p -> x.headOf(p, false), 0, 3, -1, LEAST, MOST);
        due.areThrown(Due.INDEX, "a page", p -> x.headOf(p, true), 0, 3, -1, LEAST, MOST);
        isHead(x, 1, -1, -1);
        isHead(x, 2, -1, -1);
    }

    private static void areMargins(Facingleaf x, int item, int... want) {
        for (int w = 0; w < want.length; w++) {
            due.is("marginOf(0, " + item + ", " + w + ")", x.marginOf(0, item, w), want[w]);
        }
    }

    private static void noMargin() {
        due.sentence("33", "-1 if the word has none, or it is lost");
        areMargins(composed("1 1L1 1N1 1F2", "1E3 R1 1M1"), 0, -1, -1, -1, -1);
        areMargins(composed("1 1L1 1N1", "1E3 R1"), 1, -1, -1);
        // 3 and 3 are six, and two more are left
        areMargins(composed("1M3 1M3 1M3"), 0, 100, 103, -1);
    }

    private static void placeOfARow() {
        due.sentence("33", "The place of a row on its page is how many rows are above it there");
        areMargins(composed("8M1 8M1 8M1"), 0, 100, 101, 102);
        // a float at the top, two rows, a blank
        Facingleaf x = composed("4F3 3M1 8M1", "8M1");
        areMargins(x, 0, -1, 103, 104);
        areMargins(x, 1, 106);
        // blanks as they have grown: 2, two, 1, two, 1
        x = composed("8 8", "8M1", "8M1", EIGHT);
        areMargins(x, 1, 104);
        areMargins(x, 2, 107);
        // of two blanks the upper one has grown alone: 1, two, 1, one, 3
        x = composed("8", "8M1", "8M1 8 8", EIGHT);
        areMargins(x, 1, 103);
        areMargins(x, 2, 105);
        // the float at the top of page 2 is not the first one of the chapter
        x = composed("2F4 2F5 8 8", "8M1");
        due.is("a float on each page", 10 * x.onPage(1, 1) + x.onPage(2, 1), 11);
        areMargins(x, 1, 205);
        // page 2 begins with 0, without the blank ahead
        x = composed(EIGHT, "8M1 8M1");
        areMargins(x, 1, 200, 201);
    }

    private static void behindTheOneAhead() {
        due.sentence("33",
            "it is put there, or behind the one ahead of it, if that ends below that");
        areMargins(composed("8M1 8M1"), 0, 100, 101);
        areMargins(composed("8M2 8M1"), 0, 100, 102);
        areMargins(composed("8M3 8 8 8M1"), 0, 100, -1, -1, 103);
        areMargins(composed("8M3 8 8M1"), 0, 100, -1, 103);
        areMargins(composed("2M1 2M2 2M1"), 0, 100, 101, 103);
    }

    private static void endsAtTheDepth() {
        due.sentence("33", "If it would end below the depth, it is put so that it ends there");
        int[][] want = {{1, 107}, {2, 106}, {3, 105}};
        for (int[] one : want) {
            Facingleaf x = composed("8 8 8 8 8 8 8 8M" + one[0]);
            due.is("on row 7, " + one[0] + " high", x.marginOf(0, 0, 7), one[1]);
        }
        areMargins(composed("8 8 8 8 8 8M3"), 0, -1, -1, -1, -1, -1, 105);
        Facingleaf x = Drafts.book(8, 14);
        Drafts.paragraph(x, 0, Drafts.eights(13) + " 8M3");
        x.compose(false);
        due.is("the depth is 14", x.marginOf(0, 0, 13), 111);
    }

    private static void behindTheOneAheadSo() {
        due.sentence("33", "if it is behind the one ahead of it so");
        // that ends at 5, and 5 is behind it
        Facingleaf x = composed("8 8 8 8 8M1 8 8 8M3", EIGHT);
        due.is("just behind", x.marginOf(0, 0, 7), 105);
        due.sentence("33", "otherwise it goes over the fold");
        x = composed("8 8 8 8 8 8M1 8 8M3", EIGHT);
        due.is("that ends at 6", x.marginOf(0, 0, 7), 200);
        x = composed("8 8 8 8 8M2 8 8 8M3", EIGHT);
        due.is("that ends at 6 as well", x.marginOf(0, 0, 7), 200);
    }

    private static void overTheFold() {
        due.sentence("33", "first those that came over the fold, then those of its words");
        Facingleaf x = composed("8 8 8 8 8 8M1 8 4M3 3M3", "8M1 8 8 8 8 8 8 8M1");
        due.is("at 0", x.marginOf(0, 0, 7), 200);
        due.is("behind it", x.marginOf(0, 0, 8), 203);
        due.is("the one wanted at 0", x.marginOf(0, 1, 0), 206);
        due.is("the one wanted at 7", x.marginOf(0, 1, 7), 207);
    }

    private static void overTwoFolds() {
        due.sentence("33", "to the next page of the chapter that has rows");
        // the page has places for two: of five, three go over; of these, one again
        Facingleaf x = composed("1M3 1M3 1M3 1M3 6M3 8 8 8 8 8 8", EIGHT, EIGHT);
        due.is("pageOf(0, true)", x.pageOf(0, true), 3);
        areMargins(x, 0, 100, 103, 200, 203, 300);
        due.sentence("33", "or is lost, if there is none");
        x = composed("1M3 1M3 1M3 1M3 6M3 8 8 8 8 8 8", EIGHT);
        areMargins(x, 0, 100, 103, 200, 203, -1);
        // page 2 has no rows, and page 3 is of another chapter
        x = composed("1M3 1M3 1M3", "1F3 1F3 1F3");
        Drafts.rows(x, 1, 8);
        x.compose(false);
        due.is("a page without rows", x.onPage(2, 0), 0);
        due.is("a page of chapter 1", x.kindOf(3), 1);
        // below a float of three rows there is a place for one
        areMargins(x, 0, 103, -1, -1);
    }

    private static void thoseBehind() {
        due.sentence("33", "those behind it are put all the same");
        // six rows are taken: 3 high is lost, 2 high ends at 8; then there is no place
        areMargins(composed("1M3 1M3 1M3 1M2", "1M1"), 0, 100, 103, -1, 106);
        areMargins(composed("1M3 1M3 1M3 1M2", "1M1"), 1, -1);
        Facingleaf x = composed("1M3 1M3 1M3 1M1 8 8 8 8 8 8 8", EIGHT);
        areMargins(x, 0, 100, 103, 200, 106);
    }

    private static void wordsThatAreNone(IntFunction<Object> word, IntFunction<Object> item,
            IntFunction<Object> chapter, Facingleaf x) {
        Drafts.paragraph(x, 1, "8 8 8");
        x.head(1, 0, 1);
        due.areThrown(Due.STATE, "not composed, a word", word, 0, 2);
        due.areThrown(Due.INDEX, "not composed, a word", word, -1, 3, LEAST, MOST);
        due.areThrown(Due.INDEX, "not composed, an item", item, -1, 1, 2, LEAST, MOST);
        due.areThrown(Due.INDEX, "not composed, a chapter", chapter, -1, 0, 3, LEAST, MOST);
        x.compose(false);
        due.areThrown(Due.INDEX, "a word", word, -1, 3, LEAST, MOST);
        due.areThrown(Due.INDEX, "an item without words, or none", item, -1, 1, 2, LEAST, MOST);
        due.areThrown(Due.INDEX, "a chapter", chapter, -1, 0, 3, LEAST, MOST);
        due.is("the last word", word.apply(2) instanceof Integer, true);
    }

    private static void wordsOfTheCalls() {
        Facingleaf x = Drafts.book(8, 8);
        due.sentence("30", "there is no such chapter, item or word");
        wordsThatAreNone(w -> x.textOf(1, 0, w), i -> x.textOf(1, i, 0),
            c -> x.textOf(c, 0, 0), x);
        Facingleaf y = Drafts.book(8, 8);
        due.sentence("31", "there is no such chapter, item or word");
        wordsThatAreNone(w -> y.noteOf(1, 0, w), i -> y.noteOf(1, i, 0),
            c -> y.noteOf(c, 0, 0), y);
        Facingleaf z = Drafts.book(8, 8);
        due.sentence("33", "there is no such chapter, item or word");
        wordsThatAreNone(w -> z.marginOf(1, 0, w), i -> z.marginOf(1, i, 0),
            c -> z.marginOf(c, 0, 0), z);
    }

    public static void main(String[] args) {
        noReference();
        noLabel();
        aboveOrBelow();
        overleaf();
        noNote();
        numberedByChapters();
        numberedByPages();
        firstAndLastHead();
        headAheadOfThePage();
        noHead();
        headOfAPageWithoutRows();
        pageOfAHead();
        noMargin();
        placeOfARow();
        behindTheOneAhead();
        endsAtTheDepth();
        behindTheOneAheadSo();
        overTheFold();
        overTwoFolds();
        thoseBehind();
        wordsOfTheCalls();
        due.end();
    }
}
