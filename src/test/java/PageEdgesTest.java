import java.util.function.IntFunction;

/**
 * The edges of "Pages", and of the promises 22 to 28. Most books are of lines 8 wide and pages of
 * eight rows, so that each word of 8 is a row.
 */
public final class PageEdgesTest {

    private static final int LEAST = Integer.MIN_VALUE;
    private static final int MOST = Integer.MAX_VALUE;
    private static final String SEVEN = Drafts.eights(7);
    private static final String EIGHT = Drafts.eights(8);

    private static final Due due = new Due("PageEdgesTest");

    private PageEdgesTest() { }

    /** Compares the rows, floats, lines of notes, grown rows, and how far a page is filled. */
    private static void isPage(Facingleaf x, int page, int... want) {
        for (int what = 0; what < want.length; what++) {
            due.is("onPage(" + page + ", " + what + ")", x.onPage(page, what), want[what]);
        }
    }

    private static void isCost(Facingleaf x, int chapter, int want) {
        due.is("cost(" + chapter + ")", x.cost(chapter), want);
        if (x.rows(chapter) <= 8) {
            due.is("costByAll(" + chapter + ")", x.costByAll(chapter), want);
        }
    }

    /** A book of one chapter; an item like H2 is a head that needs two rows. */
    private static Facingleaf composed(String... items) {
        Facingleaf x = Drafts.book(8, 8);
        for (String item : items) {
            if (item.charAt(0) == 'H') {
                x.head(0, 0, item.charAt(1) - '0');
            } else {
                Drafts.paragraph(x, 0, item);
            }
        }
        due.is("compose", x.compose(false), 1);
        return x;
    }

    private static int pagesOfKind(Facingleaf x, int kind) {
        int count = 0;
        for (int p = 1; p <= x.pages(); p++) {
            count += x.kindOf(p) == kind ? 1 : 0;
        }
        return count;
    }

    /** Spreads heads over the chapters, with a paragraph behind each third one. */
    private static Facingleaf withHeads(int heads, int depth) {
        Facingleaf x = Drafts.book(8, depth);
        for (int h = 0; h < heads; h++) {
            x.head(h / 8, h % 2, 1);
            if (h % 8 % 3 == 2) {
                Drafts.paragraph(x, h / 8, "8");
            }
        }
        due.is(heads + " heads can be composed", x.compose(false), 1);
        return x;
    }

    private static void contents() {
        due.sentence("22, 23", "on as many pages as are needed for them by the depth");
        int[][] want = {{0, 0, 8}, {1, 2, 8}, {8, 2, 8}, {9, 2, 8}, {16, 2, 8}, {17, 4, 8},
            {24, 4, 8}, {14, 2, 14}, {15, 2, 14}, {24, 2, 14}, {18, 2, 9}, {19, 4, 9}};
        for (int[] one : want) {
            Facingleaf x = withHeads(one[0], one[2]);
            due.is(one[0] + " heads, " + one[2] + " rows", pagesOfKind(x, 3), one[1]);
            due.is("the first page", x.pageOf(0, false), one[0] == 0 ? -1 : one[1] + 1);
        }
    }

    private static void oneMorePageOfContents() {
        due.sentence("23", "and one more, if these are an odd number");
        Facingleaf x = withHeads(1, 8);
        due.is("the one needed", x.kindOf(1), 3);
        due.is("the one more is of the contents, and not blank", x.kindOf(2), 3);
        due.is("then comes the chapter", x.kindOf(3), 0);
    }

    private static void chaptersBeginOnOddPages() {
        due.sentence("23, 24", "Each chapter that has an item begins on the next odd page");
        Facingleaf x = Drafts.book(8, 8);
        Drafts.rows(x, 0, 8);
        Drafts.rows(x, 2, 8);
        x.compose(false);
        due.is("behind page 1, a chapter without items between", x.pageOf(2, false), 3);
        Drafts.rows(x, 0, 8);
        x.compose(false);
        due.is("behind page 2", x.pageOf(2, false), 3);
        Drafts.rows(x, 0, 8);
        x.compose(false);
        due.is("behind page 3", x.pageOf(2, false), 5);
        Drafts.rows(x, 1, 8);
        x.compose(false);
        due.is("the chapter between has items", x.pageOf(1, false), 5);
        due.is("behind page 5", x.pageOf(2, false), 7);
    }

    private static void blankPages() {
        due.sentence("23", "a page ahead of it that is left so is blank");
        Facingleaf x = Drafts.book(8, 8);
        Drafts.rows(x, 0, 8);
        x.compose(false);
        due.is("none behind the last chapter", x.pages(), 1);
        Drafts.rows(x, 1, 8);
        Drafts.rows(x, 1, 8);
        Drafts.rows(x, 2, 8);
        x.compose(false);
        int[] kinds = {0, 4, 1, 1, 2};
        due.is("pages()", x.pages(), 5);
        for (int p = 1; p <= 5; p++) {
            due.is("kindOf(" + p + ")", x.kindOf(p), kinds[p - 1]);
        }
        due.is("a blank one has nothing", x.onPage(2, 4), 0);
    }

    private static void indexBehindTheLastPage() {
        due.sentence("22, 23", "The index is behind the last page of these.");
        Facingleaf x = Drafts.book(8, 8);
        x.seeAlso(0, 1);
        x.compose(false);
        due.is("of no page at all", 10 * x.pages() + x.kindOf(1), 15);
        Drafts.rows(x, 1, 8);
        x.compose(false);
        due.is("of page 1, on an even one", 10 * x.pages() + x.kindOf(2), 25);
        Drafts.rows(x, 1, 8);
        x.compose(false);
        due.is("of page 2, on an odd one", 10 * x.pages() + x.kindOf(3), 35);
        x.seeAlso(0, -1);
        x.compose(false);
        due.is("an index without lines is none", x.pages(), 2);
    }

    private static void atLeastOneRow() {
        due.sentence("26", "A page of a chapter has at least one of the rows that follow");
        // a page of the two floats of 4 alone would cost nothing, and the book 7
        Facingleaf x = composed("2F5 2F4 2F4 8 8 8");
        isPage(x, 1, 2, 1, 0, 0, 7);
        isPage(x, 2, 2, 1, 0, 0, 6);
        isPage(x, 3, 0, 1, 0, 0, 4);
        isCost(x, 0, 19);
    }

    private static void blankAtTheTop() {
        due.sentence("26",
            "The blank ahead of a row of it is a row as well, but that at its top is none.");
        Facingleaf x = composed(EIGHT, EIGHT);
        isPage(x, 1, 8, 0, 0, 0, 8);
        isPage(x, 2, 8, 0, 0, 0, 8);
        isCost(x, 0, 0);
        // 4, a blank, 3 are eight rows; 4, a blank, 4 are nine
        x = composed(Drafts.eights(4), Drafts.eights(3));
        isPage(x, 1, 7, 0, 0, 0, 8);
        due.is("pages()", x.pages(), 1);
        x = composed(Drafts.eights(4), Drafts.eights(4));
        due.is("pages()", x.pages(), 2);
    }

    private static void atMostTwoFloats() {
        due.sentence("26",
            "It has as many as is chosen, but at most two, of the floats that follow");
        // there would be room for three of two rows each
        Facingleaf x = composed("2F2 2F2 2F2");
        isPage(x, 1, 1, 2, 0, 0, 5);
        isPage(x, 2, 0, 1, 0, 0, 2);
        x = composed("2F2 2F2");
        isPage(x, 1, 1, 2, 0, 0, 5);
        due.is("pages()", x.pages(), 1);
        x = composed("8");
        isPage(x, 1, 1, 0, 0, 0, 1);
    }

    private static void floatsUpToTheEnd() {
        due.sentence("26", "of words in rows up to its end");
        // the float's row is on page 2: on page 1 it would take up what is lacking
        Facingleaf x = composed(Drafts.eights(6), "8F2 8 8");
        isPage(x, 1, 6, 0, 0, 0, 6);
        isPage(x, 2, 3, 1, 0, 0, 5);
        isCost(x, 0, 4);
        // the last row of the page is one of these
        x = composed(Drafts.eights(5) + " 8F2", "8");
        isPage(x, 1, 6, 1, 0, 0, 8);
    }

    private static void topAndFoot() {
        due.sentence("26, 33", "the first at the top, the second at the foot");
        Facingleaf x = composed("4F3 3M1");
        due.is("below the one at the top", x.marginOf(0, 0, 1), 103);
        x = composed("2F3 2F4 2M1");
        due.is("the one at the foot is not above", x.marginOf(0, 0, 2), 103);
        x = composed("8M1");
        due.is("none is above", x.marginOf(0, 0, 0), 100);
    }

    private static void roomForLines() {
        due.sentence("26", "Then it has as many lines as there is room for of the notes");
        // a row, the one above, and six lines
        Facingleaf x = composed("2N4 2N1");
        isPage(x, 1, 1, 0, 5, 0, 7);
        x = composed("2N4 2N2");
        isPage(x, 1, 1, 0, 6, 0, 8);
        due.is("pages()", x.pages(), 1);
        isCost(x, 0, 0);
        x = composed("2N4 2N3");
        isPage(x, 1, 1, 0, 6, 0, 8);
        isPage(x, 2, 0, 0, 1, 0, 2);
        isCost(x, 0, 2 + 5);
    }

    private static void theRowAboveLines() {
        due.sentence("26", "and one row above these, if there are any");
        Facingleaf x = composed("7N1");
        isPage(x, 1, 1, 0, 1, 0, 3);
        x = composed(EIGHT);
        isPage(x, 1, 8, 0, 0, 0, 8);
        // page 2: a row and six of floats, so that there is room for the row above alone
        x = composed("2N4 2N3", "2F4 2F2");
        isPage(x, 1, 1, 0, 6, 0, 8);
        isPage(x, 2, 1, 2, 0, 0, 7);
        isPage(x, 3, 0, 0, 1, 0, 2);
        isCost(x, 0, 2 + 2 + 1 + 5);
    }

    private static void notMoreThanTheDepth() {
        due.sentence("26", "All this is not more than the depth.");
        Facingleaf x = composed("8 8 8F5");
        isPage(x, 1, 3, 1, 0, 0, 8);
        isCost(x, 0, 0);
        // nine: the float or a row is on page 2
        x = composed("8 8 8 8F5");
        due.is("pages()", x.pages(), 2);
        x = composed("8 8 7N4");
        isPage(x, 1, 3, 0, 4, 0, 8);
        x = composed("8 8 8 7N4");
        due.is("pages()", x.pages(), 2);
        x = composed("8", "8", "8", "8");
        isPage(x, 1, 4, 0, 0, 0, 7);
        x = composed("8", "8", "8", "8", "8");
        due.is("pages()", x.pages(), 2);
    }

    private static void oneLineOfEachNote() {
        due.sentence("11, 26", "Of each note of a word on the page at least one line is on it.");
        Facingleaf x = Drafts.book(30, 10);
        // a row, the one above, and nine lines: eleven rows
        Drafts.paragraph(x, 0, "1N4 1N4 1N4");
        due.is("there is room for eight", x.compose(false), -1);
        due.is("isComposed()", x.isComposed(), false);
        x.setMeasures(30, 11);
        due.is("there is room for nine", x.compose(false), 1);
        isPage(x, 1, 1, 0, 9, 0, 11);
        isPage(x, 2, 0, 0, 3, 0, 4);
        // two rows, the one above, and one line of the second note
        x = composed("7N4 7N4");
        isPage(x, 1, 2, 0, 5, 0, 8);
        // a blank more, and there is no room for it
        x = composed("7N4", "7N4");
        isPage(x, 1, 1, 0, 4, 0, 6);
        isPage(x, 2, 1, 0, 4, 0, 6);
    }

    private static void rowsBelowAHead() {
        due.sentence("26",
            "A head on the page has as many rows of the page below it as it needs, blanks aside");
        // 2, a blank, the head, a blank, 3 of 5
        Facingleaf x = composed("8 8", "H3", Drafts.eights(5));
        isPage(x, 3, 6, 0, 0, 0, 8);
        // 3, a blank, the head, a blank, 2 of 5: one too few
        x = composed("8 8 8", "H3", Drafts.eights(5));
        isPage(x, 3, 3);
        x = composed("8 8 8", "H2", Drafts.eights(5));
        isPage(x, 3, 6, 0, 0, 0, 8);
        // 4, a blank, the head, a blank, a row: the blank behind it is none
        x = composed(Drafts.eights(4), "H2", "8", EIGHT);
        isPage(x, 3, 4);
        isPage(x, 4, 6, 0, 0, 0, 8);
        isCost(x, 0, 16);
        x = composed(Drafts.eights(4), "H1", "8", EIGHT);
        isPage(x, 3, 6, 0, 0, 0, 8);
    }

    private static void headWithTheLastRow() {
        due.sentence("11, 26", "unless the last row of the chapter is on the page");
        Facingleaf x = composed("H3");
        isPage(x, 3, 1, 0, 0, 0, 1);
        x = composed(Drafts.eights(4), "H3", "8");
        isPage(x, 3, 6, 0, 0, 0, 8);
        x = composed("H3", "H3", "H3", "H3");
        isPage(x, 3, 4, 0, 0, 0, 7);
        // five heads are nine rows, and no page can end with a head
        Facingleaf y = Drafts.book(8, 8);
        for (int k = 0; k < 5; k++) {
            y.head(0, 0, 1);
        }
        due.is("compose", y.compose(false), -1);
    }

    private static void pagesWithoutRows() {
        due.sentence("26", "each has floats, in their order, as long as the next one fits");
        // 4 and 4 are eight rows, 4 and 5 are nine
        Facingleaf x = composed("1F2 1F2 1F4 1F4");
        isPage(x, 1, 1, 2, 0, 0, 5);
        isPage(x, 2, 0, 2, 0, 0, 8);
        isCost(x, 0, 9 + 6 + 5);
        x = composed("1F2 1F2 1F4 1F5");
        isPage(x, 2, 0, 1, 0, 0, 4);
        isPage(x, 3, 0, 1, 0, 0, 5);
        isCost(x, 0, 9 + 6 + 5 + 5);
        // more than two can be on one
        x = composed(Drafts.eights(6) + " 2F2 2F2 2F2");
        isPage(x, 2, 0, 3, 0, 0, 6);
        due.is("if none is left behind the last row there is none", composed("2F2").pages(), 1);
    }

    private static void linesOnPagesWithoutRows() {
        due.sentence("26", "and then lines of notes, likewise");
        // a float of 5, the row above, and two of the three lines
        Facingleaf x = composed("1F5 1F5 1N4");
        isPage(x, 1, 1, 1, 1, 0, 8);
        isPage(x, 2, 0, 1, 2, 0, 8);
        isPage(x, 3, 0, 0, 1, 0, 2);
        isCost(x, 0, 3 + 6 + 5 + 5);
        // 3 and 3 leave room for the row above, and a line
        x = composed("1F5 1F3 1F3 1N2");
        isPage(x, 1, 1, 1, 1, 0, 8);
        isPage(x, 2, 0, 2, 1, 0, 8);
        isCost(x, 0, 6 + 2 + 5);
        // 5 and 2 leave room for the row above alone
        x = composed("1F5 1F5 1F2 1N2");
        isPage(x, 1, 1, 1, 1, 0, 8);
        isPage(x, 2, 0, 2, 0, 0, 7);
        isPage(x, 3, 0, 0, 1, 0, 2);
        isCost(x, 0, 6 + 2 + 5 + 5);
    }

    private static void blanksGrow() {
        due.sentence("26, 27", "each of which grows by one row");
        // 2, 1 and 1 with two blanks lack two: each grows, and none by more than one
        Facingleaf x = composed("8 8", "8", "8", EIGHT);
        isPage(x, 1, 4, 0, 0, 2, 8);
        isCost(x, 0, 1 + 1);
        // 2 and 3 with a blank lack two, and one is still lacking
        x = composed("8 8", "8 8 8", EIGHT);
        isPage(x, 1, 5, 0, 0, 1, 7);
        isCost(x, 0, 1 + 1);
        // without a blank nothing grows
        x = composed(SEVEN, EIGHT);
        isPage(x, 1, 7, 0, 0, 0, 7);
        isCost(x, 0, 1);
    }

    private static void asLongAsSomethingLacks() {
        due.sentence("26, 27", "the upper ones first, as long as something is lacking");
        // 2, 2 and 1 with two blanks lack one
        Facingleaf x = composed("8 8", "8M1 8", "8M1", EIGHT);
        isPage(x, 1, 5, 0, 0, 1, 8);
        due.is("the upper one grew: two rows, two of the blank", x.marginOf(0, 1, 0), 104);
        due.is("the lower one did not", x.marginOf(0, 2, 0), 107);
        isCost(x, 0, 1);
        // 4 and 3 with a blank lack nothing
        x = composed(Drafts.eights(4), "8 8 8", EIGHT);
        isPage(x, 1, 7, 0, 0, 0, 8);
        isCost(x, 0, 0);
    }

    private static void lackingSquared() {
        due.sentence("27", "and what is lacking still costs that squared");
        // no blank, and more behind than there is room for
        isCost(composed(EIGHT, EIGHT), 0, 0);
        isCost(composed(SEVEN, EIGHT), 0, 1);
        isCost(composed(Drafts.eights(6), "8 8"), 0, 4);
        isCost(composed(Drafts.eights(5), "8 8 8"), 0, 9);
    }

    private static void lastRowFirst() {
        due.sentence("27",
            "It costs 15 if its first row is the last one of two or more of a paragraph");
        // each row has a page of its own: that also ends with the first row of two
        Facingleaf x = composed("1N4 1N4 2N3 2N1");
        due.is("rows(0)", x.rows(0), 2);
        isCost(x, 0, 4 + 15 + 15);
        // 8 and 1 would cost 15, 7 and 2 cost 1
        x = composed(Drafts.eights(9));
        isPage(x, 1, 7);
        isCost(x, 0, 1);
        // one row of one is not the last one of two
        x = composed(EIGHT, "8");
        isPage(x, 1, 8);
        isCost(x, 0, 0);
    }

    private static void firstRowLast() {
        due.sentence("27", "and 15 if its last row is the first one of two or more");
        // 6, a blank and the first of two would cost 15; 6 lack 2
        Facingleaf x = composed(Drafts.eights(6), "8 8");
        isPage(x, 1, 6);
        isCost(x, 0, 4);
        // one row of one, and a head, are not the first one of two
        x = composed(Drafts.eights(6), "8", EIGHT);
        isPage(x, 1, 7, 0, 0, 0, 8);
        isCost(x, 0, 0);
        x = composed(Drafts.eights(6), "H1");
        isPage(x, 3, 7, 0, 0, 0, 8);
        isCost(x, 0, 0);
    }

    private static void lateFloats() {
        due.sentence("27",
            "3 for each float of words in rows up to its end that is not placed by its end");
        // page 1 lacks two, and two are late; page 2 lacks one, and one is late still
        Facingleaf x = composed("1F5 1F5 1F5", "8 8", "8 8");
        isPage(x, 1, 1, 1, 0, 0, 6);
        isPage(x, 2, 2, 1, 0, 0, 7);
        isPage(x, 3, 2, 1, 0, 0, 7);
        isCost(x, 0, 4 + 6 + 1 + 3);
        // those of page 2 are none of page 1
        x = composed(EIGHT, "2F2 2F2 4");
        isCost(x, 0, 0);
    }

    private static void lateLines() {
        due.sentence("27", "2 for each line of notes of such words that is not shown by then");
        // page 1 has no room for two of eight lines
        Facingleaf x = composed("2N4 2N4", EIGHT);
        isPage(x, 1, 1, 0, 6, 0, 8);
        isPage(x, 2, 5, 0, 2, 0, 8);
        isCost(x, 0, 4);
    }

    private static void facingPages() {
        due.sentence("27", "if it is odd, and the page ahead of it is of the same chapter");
        // 8 | 7 | 7 | 1: page 3 is filled as far as page 2
        isCost(composed(EIGHT, SEVEN, SEVEN, "8"), 0, 1 + 1);
        // 8 | 8 | 7 | 1: less far; 8 | 7 | 8 | 1: further
        isCost(composed(EIGHT, EIGHT, SEVEN, "8 8"), 0, 1 + 1);
        isCost(composed(EIGHT, SEVEN, EIGHT, "8"), 0, 1 + 1);
        // 7 | 8 | 8 | 1: page 2 is even
        isCost(composed(SEVEN, EIGHT, EIGHT, "8"), 0, 1);
        // 14 | 14 | 13 | 2 rows
        Facingleaf deep = Drafts.book(8, 14);
        for (int rows : new int[] {14, 14, 13, 2}) {
            Drafts.rows(deep, 0, rows);
        }
        deep.compose(false);
        isCost(deep, 0, 1 + 1);
        // the first page of chapter 1 is odd, and the page ahead is of chapter 0
        Facingleaf x = Drafts.book(8, 8);
        Drafts.paragraph(x, 0, EIGHT);
        Drafts.paragraph(x, 0, EIGHT);
        Drafts.paragraph(x, 1, SEVEN);
        Drafts.paragraph(x, 1, EIGHT);
        x.compose(false);
        due.is("pageOf(1, false)", x.pageOf(1, false), 3);
        isCost(x, 1, 1);
    }

    private static void theVeryLastPage() {
        due.sentence("27",
            "The very last page of a chapter, if it has rows, has nothing that grows");
        Facingleaf x = composed("8", "8");
        isPage(x, 1, 2, 0, 0, 0, 3);
        isCost(x, 0, 0);
        // with a page behind it, it is not the last one
        x = composed("8", "8 8 8 8 8", EIGHT);
        isPage(x, 1, 6, 0, 0, 1, 8);
        isPage(x, 2, 8);
        isCost(x, 0, 1);
    }

    private static void theVeryLastPageLacks() {
        due.sentence("27", "and neither what it lacks nor that difference costs it anything");
        // on page 1, 2 and 3
        isCost(composed("8"), 0, 0);
        isCost(composed(EIGHT, "8"), 0, 0);
        isCost(composed(EIGHT, EIGHT, "8"), 0, 0);
        // what is of its rows costs: two rows, of which each has a page of its own
        isCost(composed("1N4 1N4 2N3 2N1"), 0, 4 + 15 + 15);
    }

    private static void noVeryLastPage() {
        due.sentence("26, 27", "if pages without rows follow, this is of none");
        // 8 | 8 | two rows, a blank that grows, and two floats | a float
        Facingleaf x = composed(EIGHT, EIGHT, "8", "2F2 2F2 2F2");
        isPage(x, 3, 2, 2, 0, 1, 8);
        isPage(x, 4, 0, 1, 0, 0, 2);
        isCost(x, 0, 1 + 3 + 5);
        // 8 | 8 | a row and a float, which lack 2, and differ by 2 | a float
        x = composed(EIGHT, EIGHT, "1F5 1F5");
        isPage(x, 3, 1, 1, 0, 0, 6);
        isCost(x, 0, 4 + 2 + 3 + 5);
        // a line of a note alone
        x = composed("2N4 2N3");
        isCost(x, 0, 2 + 5);
    }

    private static void costOfAPageWithoutRows() {
        due.sentence("26, 27",
            "A page without rows costs 5, and nothing else; nothing grows on it.");
        // page 2 lacks 2, and a float is late; page 3 is odd, lacks 6, and is filled less far
        Facingleaf x = composed(EIGHT, "8 2F2 2F2 2F2");
        isPage(x, 2, 2, 2, 0, 0, 6);
        isPage(x, 3, 0, 1, 0, 0, 2);
        isCost(x, 0, 4 + 3 + 5);
    }

    private static void pagesWithoutRowsAreWeighed() {
        due.sentence("26, 27", "A page without rows costs 5");
        // a row lacks 2, and a float is late: 4 + 3; both rows are full, but then 3 + 5
        Facingleaf x = composed("4F5 3F3", "8");
        isPage(x, 1, 1, 1, 0, 0, 6);
        isPage(x, 2, 1, 1, 0, 0, 4);
        isCost(x, 0, 7);
        // all four floats wait
        x = composed(Drafts.eights(6) + " 1F5 1F5 1F5 1F5");
        isPage(x, 1, 7, 0, 0, 0, 7);
        due.is("pages()", x.pages(), 5);
        isCost(x, 0, 1 + 12 + 20);
    }

    private static void moreRowsFirst() {
        due.sentence("26", "of several those whose first page has more rows");
        // a row and a float lack 3; two rows and a blank that grows have one late: 1 + 3 + 5
        Facingleaf x = composed("8F4", "8F3");
        isPage(x, 1, 2, 1, 0, 1, 8);
        isPage(x, 2, 0, 1, 0, 0, 3);
        isCost(x, 0, 9);
    }

    private static void moreFloatsFirst() {
        due.sentence("26", "of several more floats");
        // with the float page 2 lacks 1 with a blank that grew, and two are late: 1 + 1 + 6;
        // without it page 1 lacks 2 with a blank that grew, and one is late: 1 + 4 + 3
        Facingleaf x = composed("8F3 8", "8 8 8F3 8", "8 8F3 8", "8");
        isPage(x, 1, 4, 1, 0, 0, 8);
        isPage(x, 2, 5, 0, 0, 1, 7);
        isPage(x, 3, 1, 2, 0, 0, 7);
        isCost(x, 0, 8);
    }

    private static void moreRowsSecond() {
        due.sentence("26", "of several likewise by the second page, and so on");
        // 2 1 1 rows, or 2 2 rows and a page without
        Facingleaf x = composed("8F5 8F4 8F3 8F4");
        isPage(x, 1, 2, 1, 0, 0, 7);
        isPage(x, 2, 2, 1, 0, 0, 6);
        isPage(x, 3, 0, 2, 0, 0, 7);
        isCost(x, 0, 19);
        // 4 rows and a float on both pages, or no float on the second one
        x = composed("8 8 8F4 8", "8F3 8", "8 8 8F4 8 8F2");
        isPage(x, 1, 4, 1, 0, 0, 8);
        isPage(x, 2, 4, 1, 0, 0, 8);
        isPage(x, 3, 3, 1, 0, 0, 7);
        isPage(x, 4, 0, 1, 0, 0, 2);
        isCost(x, 0, 10);
    }

    /** A page below 1 is none; one behind the last one is none of a composed book. */
    private static void pagesThatAreNone(IntFunction<Object> asking, Facingleaf x) {
        due.areThrown(Due.INDEX, "not composed, a page", asking, 0, -1, LEAST);
        due.areThrown(Due.STATE, "not composed, a page", asking, 1, 2, MOST);
        x.compose(false);
        due.areThrown(Due.INDEX, "a page of none", asking, 0, 1, -1, MOST);
        Drafts.rows(x, 0, 9);
        x.compose(false);
        due.areThrown(Due.INDEX, "a page of two", asking, 0, 3, -1, LEAST, MOST);
        due.is("the first one", asking.apply(1) instanceof Integer, true);
        due.is("the last one", asking.apply(2) instanceof Integer, true);
    }

    private static void pagesOfTheCalls() {
        Facingleaf x = Drafts.book(8, 8);
        due.sentence("23", "there is no such page");
        pagesThatAreNone(p -> x.kindOf(p), x);
        Facingleaf y = Drafts.book(8, 8);
        due.sentence("26", "there is no such page");
        pagesThatAreNone(p -> y.onPage(p, 0), y);
    }

    private static void howManyPages() {
        due.sentence("22", "Returns how many pages the book has.");
        Facingleaf x = Drafts.book(8, 8);
        due.isThrown(Due.STATE, "pages()", x::pages);
        x.compose(false);
        due.is("none", x.pages(), 0);
        Drafts.rows(x, 1, 1);
        due.isThrown(Due.STATE, "pages()", x::pages);
        x.compose(false);
        due.is("one", x.pages(), 1);
        x.head(2, 0, 1);
        x.seeAlso(1, 2);
        x.compose(false);
        due.is("contents, a chapter, a blank one, a chapter, the index", x.pages(), 6);
    }

    private static void firstAndLastPage() {
        due.sentence("24", "Returns the page; -1 if it has no items.");
        Facingleaf x = Drafts.book(8, 8);
        Drafts.rows(x, 1, 8);
        due.areThrown(Due.STATE, "not composed, a chapter", c -> x.pageOf(c, false), 0, 1, 2);
        due.areThrown(Due.INDEX, "not composed, a chapter", c -> x.pageOf(c, true), -1, 3);
        x.compose(false);
        due.areThrown(Due.INDEX, "a chapter", c -> x.pageOf(c, false), -1, 3, LEAST, MOST);
        due.areThrown(Due.INDEX, "a chapter", c -> x.pageOf(c, true), -1, 3, LEAST, MOST);
        for (int c = 0; c < 3; c++) {
            due.is("first of one", x.pageOf(c, false), c == 1 ? 1 : -1);
            due.is("last of one", x.pageOf(c, true), c == 1 ? 1 : -1);
        }
        Drafts.paragraph(x, 1, "2F2 2F2 2F2");
        x.compose(false);
        due.is("a page without rows", x.onPage(3, 0), 0);
        due.is("it is the last one", x.pageOf(1, true), 3);
    }

    private static void pageOfARow() {
        due.sentence("25", "0 for its first row");
        Facingleaf x = Drafts.book(8, 8);
        Drafts.rows(x, 1, 8);
        Drafts.rows(x, 1, 8);
        due.areThrown(Due.STATE, "not composed, a row", r -> x.pageOfRow(1, r), 0, 15, 16, MOST);
        due.areThrown(Due.INDEX, "not composed, a row", r -> x.pageOfRow(1, r), -1, LEAST);
        due.areThrown(Due.INDEX, "not composed, a chapter", c -> x.pageOfRow(c, 0), -1, 3);
        x.compose(false);
        due.areThrown(Due.INDEX, "a row", r -> x.pageOfRow(1, r), -1, 16, LEAST, MOST);
        due.areThrown(Due.INDEX, "a chapter", c -> x.pageOfRow(c, 0), -1, 0, 2, 3, LEAST, MOST);
        due.is("the first one", x.pageOfRow(1, 0), 1);
        due.is("the last one of page 1", x.pageOfRow(1, 7), 1);
        due.is("the first one of page 2", x.pageOfRow(1, 8), 2);
        due.is("the last one", x.pageOfRow(1, 15), 2);
    }

    private static void whatIsOnPages() {
        due.sentence("26", "what is out of range");
        Facingleaf x = Drafts.book(8, 8);
        Drafts.paragraph(x, 0, "7N1");
        due.areThrown(Due.ARGUMENT, "not composed, what", k -> x.onPage(1, k), -1, 5, MOST);
        due.areThrown(Due.STATE, "not composed, what", k -> x.onPage(1, k), 0, 4);
        x.compose(false);
        due.areThrown(Due.ARGUMENT, "what", k -> x.onPage(1, k), -1, 5, LEAST, MOST);
        due.areThrown(Due.INDEX, "what, of page 2", k -> x.onPage(2, k), -1, 0, 5);
        isPage(x, 1, 1, 0, 1, 0, 3);
    }

    private static void nothingOnOtherPages() {
        due.sentence("26", "0 for pages that are not of a chapter");
        Facingleaf x = Drafts.book(8, 8);
        x.head(0, 0, 1);
        Drafts.paragraph(x, 2, "8E0");
        x.compose(false);
        // contents, contents, a chapter, blank, a chapter, the index
        for (int p : new int[] {1, 2, 4, 6}) {
            isPage(x, p, 0, 0, 0, 0, 0);
        }
        isPage(x, 3, 1, 0, 0, 0, 1);
        isPage(x, 5, 1, 0, 0, 0, 1);
    }

    private static void costsOfNone() {
        due.sentence("27", "Returns the cost of the pages of a chapter.");
        Facingleaf x = Drafts.book(8, 8);
        due.areThrown(Due.STATE, "not composed, a chapter", c -> x.cost(c), 0, 1, 2);
        due.areThrown(Due.INDEX, "not composed, a chapter", c -> x.cost(c), -1, 3);
        Drafts.rows(x, 1, 9);
        x.compose(false);
        due.areThrown(Due.INDEX, "a chapter", c -> x.cost(c), -1, 3, LEAST, MOST);
        due.is("without items", x.cost(0), 0);
        due.is("with nine rows", x.cost(1), 1);
        Drafts.replace(x, 1, 0, EIGHT);
        x.compose(false);
        due.is("composed anew", x.cost(1), 0);
    }

    private static void allWays() {
        due.sentence("28", "the book is not composed, or the chapter has more than 8 rows");
        Facingleaf x = Drafts.book(8, 8);
        Drafts.rows(x, 1, 8);
        Drafts.rows(x, 2, 9);
        due.areThrown(Due.STATE, "not composed, a chapter", c -> x.costByAll(c), 0, 1, 2);
        due.areThrown(Due.INDEX, "not composed, a chapter", c -> x.costByAll(c), -1, 3);
        x.compose(false);
        due.areThrown(Due.INDEX, "a chapter", c -> x.costByAll(c), -1, 3, LEAST, MOST);
        due.is("of no rows", x.costByAll(0), 0);
        due.is("of eight rows", x.costByAll(1), 0);
        due.areThrown(Due.STATE, "of nine rows", c -> x.costByAll(c), 2);
        x.head(1, 0, 1);
        x.compose(false);
        due.areThrown(Due.STATE, "of eight rows and a head", c -> x.costByAll(c), 1);
        due.is("it stays composed", x.isComposed(), true);
    }

    private static void allWaysWithAllCosts() {
        due.sentence("28", "found by trying all ways");
        // lacking 2 and 1 squared, a float that is late, the difference of pages 3 and 2, a page
        // without rows
        Facingleaf x = composed("8 8F4 8 8F5", "8 8 4F4 3F3 8");
        isPage(x, 1, 2, 1, 0, 0, 6);
        isPage(x, 2, 2, 1, 0, 0, 7);
        isPage(x, 3, 4, 1, 0, 0, 8);
        isPage(x, 4, 0, 1, 0, 0, 3);
        due.is("rows(0)", x.rows(0), 8);
        isCost(x, 0, 4 + 1 + 3 + 1 + 5);
    }

    private static void allWaysIfSomethingIsKept() {
        due.sentence("28", "that is cost(), if nothing that was printed is kept");
        Facingleaf x = composed(Drafts.eights(5), "8 8 8");
        isCost(x, 0, 9);
        x.print();
        Drafts.replace(x, 0, 1, "8 8");
        x.compose(true);
        due.is("5 are kept on page 1", x.cost(0), 9);
        due.is("all seven could be on it", x.costByAll(0), 0);
        x.compose(false);
        due.is("nothing is kept", x.cost(0), 0);
        due.is("costByAll(0)", x.costByAll(0), 0);
    }

    private static void paging() {
        contents();
        oneMorePageOfContents();
        chaptersBeginOnOddPages();
        blankPages();
        indexBehindTheLastPage();
        atLeastOneRow();
        blankAtTheTop();
        atMostTwoFloats();
        floatsUpToTheEnd();
        topAndFoot();
        roomForLines();
        theRowAboveLines();
        notMoreThanTheDepth();
        oneLineOfEachNote();
        rowsBelowAHead();
        headWithTheLastRow();
        pagesWithoutRows();
        linesOnPagesWithoutRows();
    }

    private static void costs() {
        blanksGrow();
        asLongAsSomethingLacks();
        lackingSquared();
        lastRowFirst();
        firstRowLast();
        lateFloats();
        lateLines();
        facingPages();
        theVeryLastPage();
        theVeryLastPageLacks();
        noVeryLastPage();
        costOfAPageWithoutRows();
        pagesWithoutRowsAreWeighed();
        moreRowsFirst();
        moreFloatsFirst();
        moreRowsSecond();
    }

    public static void main(String[] args) {
        paging();
        costs();
        pagesOfTheCalls();
        howManyPages();
        firstAndLastPage();
        pageOfARow();
        whatIsOnPages();
        nothingOnOtherPages();
        costsOfNone();
        allWays();
        allWaysWithAllCosts();
        allWaysIfSomethingIsKept();
        due.end();
    }
}
