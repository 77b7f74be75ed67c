/** Promises 34 to 39: the ranges and the lines of the index, and the sheets. */
public final class IndexTest {

    private static final Due due = new Due("IndexTest");

    private IndexTest() { }

    private static void isRanges(Facingleaf x, int term, int... pages) {
        due.promise(34, "ranges");
        due.is("ranges(" + term + ")", x.ranges(term), pages.length / 2);
        due.promise(35, "range");
        for (int r = 0; r < pages.length / 2; r++) {
            due.is("range(" + term + ", " + r + ", false)", x.range(term, r, false), pages[2 * r]);
            due.is("range(" + term + ", " + r + ", true)", x.range(term, r, true),
                pages[2 * r + 1]);
        }
        due.is("a range that there is not", x.range(term, pages.length / 2, false), -1);
        due.is("nor is its end", x.range(term, pages.length / 2, true), -1);
        due.is("far behind", x.range(term, Integer.MAX_VALUE, true), -1);
    }

    private static void ranges() {
        Facingleaf x = Drafts.book(8, 8);
        due.promise(34, "ranges");
        due.isThrown(Due.STATE, "ranges(0)", () -> x.ranges(0));
        due.isThrown(Due.INDEX, "ranges(-1)", () -> x.ranges(-1));
        due.isThrown(Due.INDEX, "ranges(10)", () -> x.ranges(10));
        due.promise(35, "range");
        due.isThrown(Due.STATE, "range(0, 0, false)", () -> x.range(0, 0, false));
        due.isThrown(Due.ARGUMENT, "range(0, -1, false)", () -> x.range(0, -1, false));
        due.isThrown(Due.INDEX, "range(10, -1, false)", () -> x.range(10, -1, false));
        due.isThrown(Due.INDEX, "range(-1, 0, true)", () -> x.range(-1, 0, true));
        // page 1, page 2, a page of the next chapter, and again page 5
        Drafts.paragraph(x, 0, "8E0 8E0 8E1 8 8 8 8 8E0");
        Drafts.paragraph(x, 0, "8E0 8E2 8 8 8 8 8 8E2");
        Drafts.paragraph(x, 1, "8E0 8E3");
        Drafts.paragraph(x, 2, "8E1 8E3");
        x.compose(false);
        isRanges(x, 0, 1, 3);
        isRanges(x, 1, 1, 1, 5, 5);
        isRanges(x, 2, 2, 2);
        isRanges(x, 3, 3, 3, 5, 5);
        isRanges(x, 4);
        due.isThrown(Due.INDEX, "range(10, 0, false)", () -> x.range(10, 0, false));
        due.isThrown(Due.ARGUMENT, "range(4, -1, true)", () -> x.range(4, -1, true));
        Drafts.replace(x, 0, 1, "8");
        x.compose(false);
        // page 2 has no entry of the term 0 then
        isRanges(x, 0, 1, 1, 3, 3);
    }

    private static void lines() {
        due.promise(36, "indexLines");
        Facingleaf x = Drafts.book(8, 8);
        due.isThrown(Due.STATE, "indexLines()", x::indexLines);
        x.compose(false);
        due.is("indexLines()", x.indexLines(), 0);
        x.seeAlso(5, 6);
        x.compose(false);
        due.is("to see also, without entries", x.indexLines(), 1);
        due.is("the index is all that there is", x.pages(), 1);
        due.is("kindOf(1)", x.kindOf(1), 5);
        due.promise(37, "indexLine");
        due.is("indexLine(0)", x.indexLine(0), 10);
        due.is("indexLine(1)", x.indexLine(1), -1);
        due.promise(36, "indexLines");
        Drafts.paragraph(x, 0, "8E5 8E7");
        x.compose(false);
        due.is("a range of each, and one to see also", x.indexLines(), 3);
        x.seeAlso(5, -1);
        x.compose(false);
        due.is("a range of each", x.indexLines(), 2);
    }

    /** A term on each second page, of eight rows: 1 to 6 ranges. */
    private static void manyRanges() {
        due.promise(36, "indexLines");
        Facingleaf x = Drafts.book(8, 8);
        int[] lines = {1, 1, 1, 2, 2, 2};
        for (int pages = 1; pages <= 6; pages++) {
            Drafts.paragraph(x, (pages - 1) / 2, "8 8 8 8E0 8 8 8 8");
            Drafts.paragraph(x, (pages - 1) / 2, "8 8 8 8 8 8 8 8");
            x.compose(false);
            due.is("pages()", x.pages(), 2 * pages + 1);
            due.is("ranges(0)", x.ranges(0), pages);
            due.is("three in a line: " + pages, x.indexLines(), lines[pages - 1]);
        }
    }

    private static void columns() {
        due.promise(37, "indexLine");
        Facingleaf x = Drafts.book(30, 8);
        due.isThrown(Due.STATE, "indexLine(99)", () -> x.indexLine(99));
        due.isThrown(Due.ARGUMENT, "indexLine(-1)", () -> x.indexLine(-1));
        Drafts.paragraph(x, 0, "1E0 1E1 1E2 1E3 1E4 1E5 1E6 1E7 1E8 1E9");
        int lines = 10;
        for (int also = 0; also <= 9; also++) {
            x.compose(false);
            due.is("indexLines()", x.indexLines(), lines);
            due.is("pages()", x.pages(), lines <= 16 ? 2 : 3);
            for (int line = 0; line < lines; line++) {
                int inFirst = lines <= 16 ? (lines + 1) / 2 : 8;
                int want = line >= 16 ? (line - 16 < (lines - 15) / 2 ? 30 : 31)
                    : line < inFirst ? 20 : 21;
                due.is("indexLine(" + line + ") of " + lines, x.indexLine(line), want);
            }
            due.is("indexLine(" + lines + ")", x.indexLine(lines), -1);
            due.is("far behind", x.indexLine(Integer.MAX_VALUE), -1);
            x.seeAlso(also, 9 - also);
            lines++;
        }
        x.compose(false);
        due.isThrown(Due.ARGUMENT, "indexLine(-1)", () -> x.indexLine(-1));
    }

    private static void sheets() {
        due.promise(38, "sheets");
        Facingleaf x = Drafts.book(8, 8);
        due.isThrown(Due.STATE, "sheets()", x::sheets);
        int[] want = {0, 1, 1, 1, 1, 2, 2, 2, 2, 3};
        x.compose(false);
        due.is("sheets()", x.sheets(), 0);
        for (int pages = 1; pages <= 6; pages++) {
            Drafts.rows(x, 0, 8);
            x.compose(false);
            due.is("pages()", x.pages(), pages);
            due.is("sheets() of " + pages, x.sheets(), want[pages]);
        }
    }

    /** Chapter 0 on the pages 1 to 6, of 8 rows each, chapter 1 on page 7, the index on page 8. */
    private static Facingleaf printedBook() {
        Facingleaf x = Drafts.book(8, 8);
        for (int k = 0; k < 6; k++) {
            Drafts.paragraph(x, 0, k == 4 ? "R1 8 8 8 8 8 8 8" : Drafts.eights(8));
        }
        Drafts.paragraph(x, 1, "8 5L1");
        x.seeAlso(0, 1);
        x.compose(false);
        x.print();
        return x;
    }

    private static void isUntouched(Facingleaf x, String why, int want) {
        due.promise(39, "untouched");
        due.is("compose", x.compose(true) > 0, true);
        due.is(why, x.untouched(), want);
    }

    private static void untouched() {
        due.promise(39, "untouched");
        Facingleaf x = printedBook();
        due.is("pages()", x.pages(), 8);
        due.is("as printed", x.untouched(), 2);
        isUntouched(x, "composed again", 2);
        Drafts.replace(x, 0, 0, Drafts.eights(8));
        isUntouched(x, "an item of the first sheet was replaced by its like", 1);
        x.print();
        isUntouched(x, "that was printed", 2);
        Drafts.replace(x, 0, 4, "R1 8 8 8 8 8 8 8");
        isUntouched(x, "one of the second sheet", 1);
        x.print();
        x.setByPage(true);
        isUntouched(x, "there are no notes", 2);
        x.seeAlso(0, 2);
        isUntouched(x, "what the index says is all one", 2);
        x.seeAlso(0, -1);
        isUntouched(x, "the index is no more", 1);
        x.seeAlso(0, 1);
        isUntouched(x, "it is again", 2);
        Drafts.rows(x, 2, 8);
        isUntouched(x, "a chapter in place of the index, and more pages", 1);
        Facingleaf y = new Facingleaf();
        due.isThrown(Due.STATE, "untouched()", y::untouched);
        y.compose(false);
        due.is("nothing was printed", y.untouched(), 0);
        Drafts.paragraph(y, 0, "8");
        y.compose(false);
        due.is("still nothing", y.untouched(), 0);
        y.print();
        due.is("one page", y.untouched(), 1);
    }

    private static void touchedFromAfar() {
        due.promise(39, "untouched");
        // the text of the reference on page 5 changes with the page of the label
        Facingleaf x = printedBook();
        Drafts.rows(x, 0, 8);
        isUntouched(x, "page 7 is of another chapter, and the label on page 9", 1);
        due.is("textOf(0, 4, 0)", x.textOf(0, 4, 0), 19);
        x = printedBook();
        x.head(2, 0, 1);
        isUntouched(x, "contents come first, and all is moved", 0);
        // the text alone: the label goes from page 5 to page 6
        x = Drafts.book(8, 8);
        Drafts.paragraph(x, 0, "R1 8 8 8 8 8 8 8");
        for (int k = 0; k < 3; k++) {
            Drafts.rows(x, 0, 8);
        }
        Drafts.paragraph(x, 0, "8 8 8 8 8 8 5L1 8");
        Drafts.rows(x, 0, 2);
        x.compose(false);
        x.print();
        due.is("textOf(0, 0, 0)", x.textOf(0, 0, 0), 15);
        isUntouched(x, "as it is", 2);
        Drafts.replace(x, 0, 4, "8 8 8 8 8 8 8");
        Drafts.replace(x, 0, 5, "8 5L1");
        isUntouched(x, "the reference on page 1 is another, as is what was replaced", 0);
        due.is("textOf(0, 0, 0)", x.textOf(0, 0, 0), 16);
    }

    private static void touchedByNumbers() {
        due.promise(39, "untouched");
        Facingleaf x = Drafts.book(8, 8);
        Drafts.paragraph(x, 0, "7N1 8 8 8 8 8");
        for (int k = 0; k < 3; k++) {
            Drafts.rows(x, 0, 8);
        }
        Drafts.paragraph(x, 0, "7N1 8 8 8 8 8");
        x.compose(false);
        x.print();
        due.is("pages()", x.pages(), 5);
        due.is("as printed", x.untouched(), 2);
        x.setByPage(true);
        isUntouched(x, "the second note has the number 1 then", 1);
    }

    /** Four pages, the fourth with seven rows or with a note; on page 5 what it leaves behind. */
    private static Facingleaf printedBehind(String fourth, String fifth) {
        Facingleaf x = Drafts.book(8, 8);
        for (int k = 0; k < 3; k++) {
            Drafts.rows(x, 0, 8);
        }
        Drafts.paragraph(x, 0, fourth);
        Drafts.paragraph(x, 0, fifth);
        Drafts.rows(x, 0, 2);
        x.compose(false);
        x.print();
        due.is("as printed", x.untouched(), 2);
        due.is("pages()", x.pages(), 6);
        return x;
    }

    private static void touchedByFloats() {
        due.promise(39, "untouched");
        Facingleaf x = printedBehind("8 8 8 8 8 8 8F3", "8 8 8 8 8");
        due.is("the float is late", x.onPage(5, 1), 1);
        Drafts.replace(x, 0, 3, "8 8 8 8 8 8 8F2");
        isUntouched(x, "page 5 has the same rows, and another float", 0);
        due.is("rows", x.onPage(5, 0), 5);
        due.is("floats", x.onPage(5, 1), 1);
        x = printedBehind("7N4 7N4", "8 8 8 8");
        due.is("three lines go over", x.onPage(5, 2), 3);
        Drafts.replace(x, 0, 5, "8 8");
        isUntouched(x, "the first sheet is as it was", 1);
        x.print();
        Drafts.replace(x, 0, 3, "7N2 8 8 7N4");
        isUntouched(x, "page 5 has lines of another note", 0);
        due.is("rows", x.onPage(5, 0), 4);
        due.is("lines", x.onPage(5, 2), 3);
        x = printedBehind("7N4 7N2", "7N1 8 8 8");
        due.is("one line goes over, and one is of page 5", x.onPage(5, 2), 2);
        Drafts.replace(x, 0, 3, "7N2 8 8 7N2");
        isUntouched(x, "the one that goes over is another", 0);
        due.is("lines", x.onPage(5, 2), 2);
    }

    private static void touchedByGrowth() {
        due.promise(39, "untouched");
        // the very last page has nothing that grows; with one behind it, it has
        Facingleaf x = Drafts.book(8, 8);
        for (int k = 0; k < 4; k++) {
            Drafts.rows(x, 0, 8);
        }
        Drafts.rows(x, 0, 3);
        Drafts.rows(x, 0, 3);
        x.compose(false);
        x.print();
        due.is("grown", x.onPage(5, 3), 0);
        Drafts.rows(x, 0, 7);
        isUntouched(x, "page 5 has grown, and there is a page more", 1);
        due.is("grown", x.onPage(5, 3), 1);
        x.print();
        isUntouched(x, "as it is", 2);
    }

    public static void main(String[] args) {
        ranges();
        lines();
        manyRanges();
        columns();
        sheets();
        untouched();
        touchedFromAfar();
        touchedByNumbers();
        touchedByFloats();
        touchedByGrowth();
        due.end();
    }
}
