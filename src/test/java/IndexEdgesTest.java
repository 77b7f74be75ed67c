/** The edges of the index and of sheets: the promises 34 to 39. */
public final class IndexEdgesTest {

    private static final int LEAST = Integer.MIN_VALUE;
    private static final int MOST = Integer.MAX_VALUE;
    private static final String EIGHT = Drafts.eights(8);

    private static final Due due = new Due("IndexEdgesTest");

    private IndexEdgesTest() { }

    /** A book of one chapter, lines 8 wide and pages of eight rows. */
    private static Facingleaf composed(String... paragraphs) {
        Facingleaf x = Drafts.book(8, 8);
        for (String words : paragraphs) {
            Drafts.paragraph(x, 0, words);
        }
        due.is("it is composed", x.compose(false) > 0, true);
        return x;
    }

    /** A paragraph of eight rows with an entry in its first row. */
    private static String entry(int term) {
        return "8E" + term + " 8 8 8 8 8 8 8";
    }

    /** Compares the ranges of a term, each by its first and its last page. */
    private static void areRanges(Facingleaf x, int term, int... pages) {
        due.is("ranges(" + term + ")", x.ranges(term), pages.length / 2);
        for (int k = 0; k < pages.length; k++) {
            boolean isEnd = k % 2 == 1;
            due.is("range(" + term + ", " + k / 2 + ", " + isEnd + ")",
                x.range(term, k / 2, isEnd), pages[k]);
        }
    }

    private static void pagesThatFollow() {
        due.sentence("34, 35", "A range are pages that follow one another, as many as do.");
        Facingleaf x = composed(EIGHT, entry(0), EIGHT);
        areRanges(x, 0, 2, 2);
        areRanges(x, 1);
        areRanges(composed(entry(0), entry(0), EIGHT), 0, 1, 2);
        areRanges(composed(entry(0), entry(0), entry(0)), 0, 1, 3);
        areRanges(composed(entry(0), EIGHT, entry(0)), 0, 1, 1, 3, 3);
        areRanges(composed(entry(0), entry(0), EIGHT, entry(0), entry(0)), 0, 1, 2, 4, 5);
        areRanges(composed(entry(0), EIGHT, EIGHT, entry(0)), 0, 1, 1, 4, 4);
        areRanges(composed("8E0 8E0 8 8 8 8 8E0 8E0", "8E0 8E0"), 0, 1, 2);
        areRanges(composed(entry(0), entry(1), entry(0)), 1, 2, 2);
    }

    private static void rangesOverChapters() {
        due.sentence("34, 35", "pages that follow one another");
        // page 2 of chapter 0 and page 3 of chapter 1
        Facingleaf x = composed(EIGHT, entry(0));
        Drafts.paragraph(x, 1, entry(0));
        x.compose(false);
        areRanges(x, 0, 2, 3);
        // the blank page 2 is between
        x = composed(entry(0));
        Drafts.paragraph(x, 1, entry(0));
        x.compose(false);
        areRanges(x, 0, 1, 1, 3, 3);
        // a page without rows is between
        x = composed("8E0", "2F2 2F2 2F2");
        Drafts.paragraph(x, 1, "8E0");
        x.compose(false);
        due.is("a page without rows", x.onPage(2, 0), 0);
        areRanges(x, 0, 1, 1, 3, 3);
    }

    private static void termOfRanges() {
        due.sentence("34", "there is no such term");
        Facingleaf x = Drafts.book(8, 8);
        due.areThrown(Due.STATE, "not composed, a term", t -> x.ranges(t), 0, 9);
        due.areThrown(Due.INDEX, "not composed, a term", t -> x.ranges(t), -1, 10, LEAST, MOST);
        Drafts.paragraph(x, 2, "8E0 8E9");
        x.compose(false);
        due.areThrown(Due.INDEX, "a term", t -> x.ranges(t), -1, 10, LEAST, MOST);
        due.is("ranges(0)", x.ranges(0), 1);
        due.is("ranges(5)", x.ranges(5), 0);
        due.is("ranges(9)", x.ranges(9), 1);
        x.seeAlso(5, 0);
        x.compose(false);
        due.is("a term to see also has none", x.ranges(5), 0);
    }

    private static void rangeOfATerm() {
        due.sentence("35", "if range is below 0");
        Facingleaf x = Drafts.book(8, 8);
        due.areThrown(Due.ARGUMENT, "not composed", r -> x.range(0, r, false), -1, LEAST);
        due.areThrown(Due.STATE, "not composed", r -> x.range(0, r, false), 0, MOST);
        due.areThrown(Due.INDEX, "not composed, a term", t -> x.range(t, -1, true), -1, 10);
        Drafts.paragraph(x, 0, entry(9));
        Drafts.paragraph(x, 0, EIGHT);
        Drafts.paragraph(x, 0, entry(9));
        x.compose(false);
        due.areThrown(Due.ARGUMENT, "a range", r -> x.range(9, r, true), -1, LEAST);
        due.areThrown(Due.INDEX, "a term", t -> x.range(t, 0, true), -1, 10, LEAST, MOST);
        areRanges(x, 9, 1, 1, 3, 3);
        due.sentence("35", "-1 if there are not so many ranges");
        for (int range : new int[] {2, 3, 100, MOST}) {
            due.is("of two", x.range(9, range, false), -1);
            due.is("of two", x.range(9, range, true), -1);
            due.is("of none", x.range(0, range - 2, true), -1);
        }
    }

    private static void threeInALine() {
        due.sentence("36", "as many as are needed for the ranges of its pages, three in a line");
        Facingleaf x = Drafts.book(8, 8);
        for (int ranges = 1; ranges <= 8; ranges++) {
            int chapter = ranges <= 4 ? 0 : 1;
            Drafts.paragraph(x, chapter, entry(0));
            x.compose(false);
            due.is("ranges", x.ranges(0), ranges);
            due.is("lines of " + ranges, x.indexLines(), ranges <= 3 ? 1 : ranges <= 6 ? 2 : 3);
            if (ranges % 4 != 0) {
                Drafts.paragraph(x, chapter, EIGHT);
            }
        }
    }

    private static void linesOfTerms() {
        due.sentence("36", "term by term, for each term that has entries");
        Facingleaf x = Drafts.book(8, 8);
        due.isThrown(Due.STATE, "indexLines()", x::indexLines);
        x.compose(false);
        due.is("of none", x.indexLines(), 0);
        Drafts.paragraph(x, 0, "1E0");
        x.compose(false);
        due.is("of one", x.indexLines(), 1);
        Drafts.paragraph(x, 0, "1E0 1E9");
        x.compose(false);
        due.is("a range of two does not go on with that of another", x.indexLines(), 2);
        Drafts.paragraph(x, 0, "1E1 1E2 1E3 1E4 1E5 1E6 1E7 1E8");
        x.compose(false);
        due.is("of all ten", x.indexLines(), 10);
    }

    private static void linesToSeeAlso() {
        due.sentence("36", "and one for a term to see also, whether it has entries or not");
        Facingleaf x = Drafts.book(8, 8);
        x.seeAlso(0, 9);
        x.compose(false);
        due.is("without entries", x.indexLines(), 1);
        Drafts.paragraph(x, 0, "1E0");
        x.compose(false);
        due.is("with entries", x.indexLines(), 2);
        x.seeAlso(9, 0);
        x.compose(false);
        due.is("each to the other", x.indexLines(), 3);
        x.seeAlso(0, 1);
        x.compose(false);
        due.is("another one in its place", x.indexLines(), 3);
        x.seeAlso(0, -1);
        x.seeAlso(9, -1);
        x.compose(false);
        due.is("none", x.indexLines(), 1);
    }

    /** A book of ten terms with entries on page 1, of which some are to see also another one. */
    private static Facingleaf indexed(int terms, int also, int depth) {
        Facingleaf x = Drafts.book(30, depth);
        for (int term = 0; term < terms; term++) {
            x.word(1, 4, term);
        }
        x.paragraph(0);
        for (int term = 0; term < also; term++) {
            x.seeAlso(term, 9 - term);
        }
        x.compose(false);
        due.is("indexLines()", x.indexLines(), terms + also);
        return x;
    }

    private static void areColumns(Facingleaf x, int... counts) {
        int line = 0;
        for (int k = 0; k < counts.length; k++) {
            for (int n = 0; n < counts[k]; n++) {
                due.is("indexLine(" + line + ")", x.indexLine(line), 20 + k / 2 * 10 + k % 2);
                line++;
            }
        }
        due.is("indexLine(" + line + ")", x.indexLine(line), -1);
        due.is("pages()", x.pages(), 1 + (counts.length + 1) / 2);
    }

    private static void columnsOfTheLastPage() {
        due.sentence("37", "on the last page the first column has half of its lines, rounded up");
        areColumns(indexed(1, 0, 8), 1);
        areColumns(indexed(2, 0, 8), 1, 1);
        areColumns(indexed(3, 0, 8), 2, 1);
        areColumns(indexed(4, 0, 8), 2, 2);
        areColumns(indexed(9, 6, 8), 8, 7);
    }

    private static void columnsAsDeepAsTheDepth() {
        due.sentence("22, 37", "Lines fill pages of two columns, as deep as the depth");
        areColumns(indexed(10, 6, 8), 8, 8);
        areColumns(indexed(10, 7, 8), 8, 8, 1);
        areColumns(indexed(10, 8, 8), 8, 8, 1, 1);
        areColumns(indexed(10, 9, 8), 8, 8, 2, 1);
        areColumns(indexed(10, 8, 9), 9, 9);
        areColumns(indexed(10, 9, 9), 9, 9, 1);
        areColumns(indexed(10, 10, 14), 10, 10);
    }

    private static void lineOfTheIndex() {
        due.sentence("37", "if line is below 0");
        Facingleaf x = Drafts.book(8, 8);
        due.areThrown(Due.ARGUMENT, "not composed", k -> x.indexLine(k), -1, LEAST);
        due.areThrown(Due.STATE, "not composed", k -> x.indexLine(k), 0, 1, MOST);
        x.compose(false);
        due.areThrown(Due.ARGUMENT, "composed", k -> x.indexLine(k), -1, -2, LEAST);
        due.sentence("37", "-1 if there are not so many lines");
        due.is("of none", x.indexLine(0), -1);
        x.seeAlso(0, 1);
        x.compose(false);
        due.is("of one", x.indexLine(0), 10);
        for (int line : new int[] {1, 2, 16, MOST}) {
            due.is("indexLine(" + line + ")", x.indexLine(line), -1);
        }
    }

    private static void begunSheets() {
        due.sentence("38", "Four pages are a sheet");
        Facingleaf x = Drafts.book(8, 8);
        due.isThrown(Due.STATE, "sheets()", x::sheets);
        x.compose(false);
        due.is("of no pages", x.sheets(), 0);
        int[] want = {1, 1, 1, 1, 2, 2, 2};
        for (int k = 0; k < want.length; k++) {
            Drafts.rows(x, 0, 8);
            x.compose(false);
            due.is("pages()", x.pages(), k + 1);
            due.is("begun ones counted", x.sheets(), want[k]);
        }
        x.seeAlso(0, 1);
        x.compose(false);
        due.is("the index is of the eighth page", x.sheets(), 2);
        Drafts.rows(x, 1, 1);
        x.compose(false);
        due.is("a blank page, the ninth and the tenth", 100 * x.pages() + x.sheets(), 1003);
    }

    private static void isUntouched(Facingleaf x, int want, String why) {
        due.is("compose", x.compose(true) > 0, true);
        due.is(why, x.untouched(), want);
    }

    /** Five pages of eight rows, in five paragraphs: a sheet, and one that is begun. */
    private static Facingleaf printed() {
        Facingleaf x = composed(EIGHT, EIGHT, EIGHT, EIGHT, EIGHT);
        x.print();
        due.is("two sheets", x.untouched(), 2);
        return x;
    }

    private static void nothingPrinted() {
        due.sentence("39", "0 if nothing was printed");
        Facingleaf x = Drafts.book(8, 8);
        due.isThrown(Due.STATE, "untouched()", x::untouched);
        x.compose(false);
        due.is("of no pages", x.untouched(), 0);
        Drafts.rows(x, 0, 8);
        due.isThrown(Due.STATE, "untouched()", x::untouched);
        x.compose(false);
        due.is("of one page", x.untouched(), 0);
        x.print();
        due.is("printed", x.untouched(), 1);
        isUntouched(x, 1, "composed again");
    }

    private static void nothingPrintedOfNothing() {
        due.sentence("39", "of those that there are now or were printed");
        Facingleaf x = Drafts.book(8, 8);
        x.compose(false);
        x.print();
        due.is("of no pages", x.untouched(), 0);
        Drafts.rows(x, 0, 8);
        isUntouched(x, 0, "a sheet that is new");
    }

    private static void pagesThereBothTimes() {
        due.sentence("39", "of those that there are now and those that were printed, "
            + "is there both times");
        Facingleaf x = printed();
        Drafts.rows(x, 0, 8);
        isUntouched(x, 1, "page 6 is new");
        x.print();
        x.seeAlso(0, 1);
        isUntouched(x, 1, "page 7 is new, of the index");
        x.print();
        due.is("printed", x.untouched(), 2);
        x.seeAlso(0, -1);
        isUntouched(x, 1, "page 7 is no more");
        // the fourth page, and then the fifth, is the index
        x = composed(EIGHT, EIGHT, EIGHT, EIGHT);
        x.seeAlso(0, 1);
        x.compose(false);
        x.print();
        due.is("two sheets", 10 * x.sheets() + x.untouched(), 22);
        x.seeAlso(0, -1);
        isUntouched(x, 1, "a whole sheet is no more");
        due.is("sheets()", x.sheets(), 1);
        x.print();
        x.seeAlso(0, 1);
        isUntouched(x, 1, "a whole sheet is new");
    }

    private static void pagesOfTheSameKind() {
        due.sentence("39", "of the contents, of the index, blank, or of the same chapter");
        Facingleaf x = composed(EIGHT, EIGHT);
        x.head(2, 0, 1);
        x.seeAlso(0, 1);
        x.compose(false);
        x.print();
        // contents and chapter 0; chapter 2 and the index
        due.is("printed", 10 * x.sheets() + x.untouched(), 22);
        x.seeAlso(1, 2);
        x.seeAlso(0, 5);
        isUntouched(x, 2, "what the index says is all one");
        x.head(2, 0, 1);
        isUntouched(x, 1, "what the contents say as well");
        x.seeAlso(0, -1);
        x.seeAlso(1, -1);
        x.compose(false);
        x.print();
        due.is("printed", 10 * x.pages() + x.untouched(), 52);
        Drafts.rows(x, 0, 8);
        isUntouched(x, 1, "page 5 is of another chapter");
        // page 2 is blank, and then of chapter 0
        x = composed(EIGHT);
        Drafts.rows(x, 1, 8);
        x.compose(false);
        x.print();
        Drafts.rows(x, 2, 8);
        isUntouched(x, 0, "page 4 is blank, and was none");
        x.print();
        due.is("page 4 is blank both times", x.untouched(), 2);
        Drafts.rows(x, 0, 8);
        isUntouched(x, 1, "page 2 is blank no more");
    }

    private static void sameRows() {
        due.sentence("39", "with the same rows");
        Facingleaf x = composed(EIGHT, EIGHT, EIGHT, EIGHT, "8 8");
        x.print();
        Drafts.rows(x, 0, 3);
        isUntouched(x, 1, "more rows on page 5");
        // in lines of 9, all but page 5 have the words that they had, with the same breaks
        x = composed(EIGHT, EIGHT, EIGHT, EIGHT, "4 4 4 4");
        x.print();
        due.is("lines(0, 4)", x.lines(0, 4), 4);
        x.setMeasures(9, 8);
        isUntouched(x, 1, "two words in a row");
        due.is("lines(0, 4)", x.lines(0, 4), 2);
    }

    private static void sameRowsFurtherUp() {
        due.sentence("39", "with the same rows, having the same words");
        // the numbers of rows, floats and lines of notes change, and not what is on page 5
        Facingleaf x = composed(EIGHT, EIGHT, EIGHT, EIGHT, "8 8 5N1 1F2");
        x.print();
        due.is("printed", 10 * x.pages() + x.untouched(), 52);
        Drafts.replace(x, 0, 3, Drafts.eights(7));
        isUntouched(x, 1, "a row less ahead");
        Drafts.replace(x, 0, 3, "8 8 8 8 8 8F2");
        isUntouched(x, 1, "a float more ahead");
        x.setByPage(true);
        x.compose(false);
        x.print();
        Drafts.replace(x, 0, 3, "8 8 8 8 8 7N1");
        isUntouched(x, 1, "a note more ahead");
        due.is("the pages are as many", 10 * x.pages() + x.sheets(), 52);
    }

    private static void sameWords() {
        due.sentence("39", "having the same words of items that were not replaced since");
        Facingleaf x = printed();
        Drafts.replace(x, 0, 4, EIGHT);
        isUntouched(x, 1, "replaced by its like");
        x.print();
        due.is("replaced ahead of printing", x.untouched(), 2);
        Drafts.replace(x, 0, 3, EIGHT);
        isUntouched(x, 1, "on the last page of a sheet");
        x.print();
        Drafts.replace(x, 0, 0, EIGHT);
        isUntouched(x, 1, "on the first page of a sheet");
        Drafts.replace(x, 0, 4, EIGHT);
        isUntouched(x, 0, "on both sheets");
    }

    private static void sheetOfEachPage() {
        due.sentence("38, 39", "the first sheet the pages 1 to 4, and so on");
        Facingleaf x = Drafts.book(8, 8);
        for (int k = 0; k < 12; k++) {
            Drafts.rows(x, k / 4, 8);
        }
        x.compose(false);
        due.is("pages and sheets", 100 * x.print() + 10 * x.sheets() + x.untouched(), 1233);
        for (int k = 0; k < 12; k++) {
            Drafts.replace(x, k / 4, k % 4, EIGHT);
            isUntouched(x, 2, "all but that of page " + (k + 1));
            if (k % 4 == 3) {
                x.print();
            }
        }
        Drafts.replace(x, 0, 3, EIGHT);
        Drafts.replace(x, 2, 0, EIGHT);
        isUntouched(x, 1, "all but those of the pages 4 and 9");
        Drafts.replace(x, 1, 3, EIGHT);
        isUntouched(x, 0, "and but that of page 8");
    }

    private static void sameTexts() {
        due.sentence("39", "the same texts of references");
        Facingleaf x = composed("1 R1 8 8 8 8 8 8 8", EIGHT, EIGHT, EIGHT);
        Drafts.paragraph(x, 1, "8 4L1");
        x.compose(false);
        x.print();
        due.is("page 5", x.textOf(0, 0, 1), 15);
        isUntouched(x, 2, "as it was");
        Drafts.rows(x, 0, 8);
        x.compose(true);
        due.is("page 7", x.textOf(0, 0, 1), 17);
        due.is("both are 6 wide, and the rows are the same", x.widthOf(0, 0, 1), 6);
        due.is("the first sheet has another text", x.untouched(), 0);
    }

    private static void sameNumbers() {
        due.sentence("39", "and numbers of notes");
        Facingleaf x = composed("7N1 8 8 8 8 8", EIGHT, EIGHT, EIGHT, "7N1 8 8 8 8 8");
        x.print();
        due.is("the second one", x.noteOf(0, 4, 0), 2);
        x.setByPage(true);
        isUntouched(x, 1, "the first one of page 5");
        due.is("noteOf(0, 4, 0)", x.noteOf(0, 4, 0), 1);
        x.setByPage(false);
        isUntouched(x, 2, "the second one again");
    }

    /** The fourth page leaves something to the fifth one. */
    private static Facingleaf printedBehind(String fourth, String fifth) {
        Facingleaf x = composed(EIGHT, EIGHT, EIGHT, fourth, fifth, "8 8");
        x.print();
        due.is("pages and sheets", 10 * x.pages() + x.untouched(), 62);
        return x;
    }

    private static void sameFloats() {
        due.sentence("39", "the same floats");
        Facingleaf x = printedBehind("8 8 8 8 8 8 8F3", "8 8 8 8 8");
        due.is("a float on page 5", x.onPage(5, 1), 1);
        Drafts.replace(x, 0, 3, "8 8 8 8 8 8 8F2");
        isUntouched(x, 0, "another one, with the same rows");
        due.is("rows and floats", 10 * x.onPage(5, 0) + x.onPage(5, 1), 51);
        x.print();
        Drafts.replace(x, 0, 3, "8 8 8 8 8 8 8");
        isUntouched(x, 0, "none");
        // page 4, of chapter 1, leaves two floats of two items to page 5
        x = composed(EIGHT, EIGHT);
        for (String words : new String[] {EIGHT, "8 8 8 8 8 8F3", "8F3", "8 8", "8 8"}) {
            Drafts.paragraph(x, 1, words);
        }
        x.compose(false);
        x.print();
        due.is("rows and floats", 10 * x.onPage(5, 0) + x.onPage(5, 1), 22);
        due.is("printed", 10 * x.pages() + x.untouched(), 62);
        Drafts.replace(x, 1, 2, "8F2");
        isUntouched(x, 0, "the second one is another");
        due.is("rows and floats", 10 * x.onPage(5, 0) + x.onPage(5, 1), 22);
    }

    private static void sameLinesOfNotes() {
        due.sentence("39", "and lines of notes");
        Facingleaf x = printedBehind("7N4 7N4", "8 8 8 8");
        due.is("three lines on page 5", x.onPage(5, 2), 3);
        Drafts.replace(x, 0, 3, "7N2 8 8 7N4");
        isUntouched(x, 0, "of another note, with the same rows");
        due.is("rows and lines", 10 * x.onPage(5, 0) + x.onPage(5, 2), 43);
        x = printedBehind("7N4 7N2", "7N1 8 8 8");
        due.is("a line that goes over, and one of page 5", x.onPage(5, 2), 2);
        Drafts.replace(x, 0, 3, "7N2 8 8 7N2");
        isUntouched(x, 0, "the one that goes over is another");
        due.is("rows and lines", 10 * x.onPage(5, 0) + x.onPage(5, 2), 42);
    }

    private static void asMuchGrown() {
        due.sentence("39", "and as much grown");
        // page 4 is the very last one, on which nothing grows
        Facingleaf x = composed(EIGHT, EIGHT, EIGHT, "8 8 8", "8 8 8");
        x.print();
        due.is("printed", 10 * x.onPage(4, 3) + x.untouched(), 1);
        Drafts.rows(x, 0, 8);
        isUntouched(x, 0, "its blank has grown, and all else is as it was");
        due.is("rows, and grown", 10 * x.onPage(4, 0) + x.onPage(4, 3), 61);
        x.print();
        due.is("printed", x.untouched(), 2);
    }

    public static void main(String[] args) {
        pagesThatFollow();
        rangesOverChapters();
        termOfRanges();
        rangeOfATerm();
        threeInALine();
        linesOfTerms();
        linesToSeeAlso();
        columnsOfTheLastPage();
        columnsAsDeepAsTheDepth();
        lineOfTheIndex();
        begunSheets();
        nothingPrinted();
        nothingPrintedOfNothing();
        pagesThereBothTimes();
        pagesOfTheSameKind();
        sameRows();
        sameRowsFurtherUp();
        sameWords();
        sheetOfEachPage();
        sameTexts();
        sameNumbers();
        sameFloats();
        sameLinesOfNotes();
        asMuchGrown();
        due.end();
    }
}
