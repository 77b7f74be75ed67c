/** Promises 11, 12 and 29: rounds and rings, what cannot be composed, printing and keeping. */
public final class ComposeTest {

    private static final Due due = new Due("ComposeTest");

    private ComposeTest() { }

    private static void rounds() {
        due.promise(11, "compose");
        Facingleaf x = Drafts.book(30, 8);
        due.is("an empty book", x.compose(false), 1);
        Drafts.paragraph(x, 0, "3 R5");
        due.is("2 wide, as it stays without a label", x.compose(false), 1);
        Drafts.paragraph(x, 0, "R4 3L4");
        due.is("2 wide, then 5", x.compose(false), 2);
        due.is("widthOf(0, 1, 0)", x.widthOf(0, 1, 0), 5);
        due.is("each composing begins anew", x.compose(false), 2);
        due.promise(29, "isSettled");
        due.is("isSettled()", x.isSettled(), false);
    }

    private static void threeRounds() {
        due.promise(11, "compose");
        // 8 | 1, at first; the reference 5 wide takes a line more, so that 7 | 3
        Facingleaf x = Drafts.book(8, 8);
        Drafts.paragraph(x, 0, "5 R1 8 8 8 8 8 3 4L1");
        due.is("compose", x.compose(false), 2);
        due.is("rows(0)", x.rows(0), 8);
        Drafts.replace(x, 0, 0, "5 R1 8 8 8 8 8 8 4L1");
        due.is("2, then 5, then 8 wide, as it is on the next page", x.compose(false), 3);
        due.is("rows(0)", x.rows(0), 9);
        due.is("widthOf(0, 0, 1)", x.widthOf(0, 0, 1), 8);
        due.is("textOf(0, 0, 1)", x.textOf(0, 0, 1), 2);
        due.promise(29, "isSettled");
        due.is("isSettled()", x.isSettled(), false);
    }

    /** Both 5 wide: the second one comes on page 2. 6 wide there: it comes back to page 1. */
    private static Facingleaf ring() {
        Facingleaf x = Drafts.book(10, 8);
        Drafts.paragraph(x, 0, "8 6L1");
        Drafts.paragraph(x, 0, "2 8 8 R1 R1 4 8");
        return x;
    }

    private static void rings() {
        due.promise(11, "compose");
        Facingleaf x = ring();
        // 2 and 2, 5 and 5, 5 and 6; these ask for 5 and 5: the widest are 5 and 6
        due.is("compose", x.compose(false), 4);
        due.promise(29, "isSettled");
        due.is("isSettled()", x.isSettled(), true);
        due.promise(16, "widthOf");
        due.is("widthOf(0, 1, 3)", x.widthOf(0, 1, 3), 5);
        due.is("widthOf(0, 1, 4)", x.widthOf(0, 1, 4), 6);
        due.promise(30, "textOf");
        due.is("by the pages as they are", x.textOf(0, 1, 4), 1);
        due.promise(21, "broken");
        due.is("both, and the second one twice, and never in the last round", x.broken(), 4);
        due.promise(29, "isSettled");
        Drafts.replace(x, 0, 1, "2 8 8 8 8 4 8");
        due.is("compose", x.compose(false), 1);
        due.is("isSettled()", x.isSettled(), false);
        due.isThrown(Due.STATE, "isSettled() of a book that is not composed",
            () -> new Facingleaf().isSettled());
    }

    private static void ringOfAll() {
        due.promise(11, "compose");
        // 2 and 2, 5 and 5, and then overleaf: 8 and 8, by which the label comes back to page 1
        Facingleaf x = Drafts.book(11, 8);
        Drafts.paragraph(x, 0, "R1");
        Drafts.paragraph(x, 0, "8");
        Drafts.paragraph(x, 0, "8 8 R1 3 2L1 8 8");
        due.is("compose", x.compose(false), 4);
        due.is("the widest of the first one", x.widthOf(0, 0, 0), 8);
        due.is("the widest of the second one", x.widthOf(0, 2, 2), 8);
        due.is("the label is on the same page", x.textOf(0, 0, 0), 1);
        due.is("lines(0, 2)", x.lines(0, 2), 6);
        due.is("the paragraph of 8 in the first round alone", x.broken(), 7);
        due.promise(29, "isSettled");
        due.is("isSettled()", x.isSettled(), true);
    }

    private static void ringFromTheFirstRound() {
        due.promise(11, "compose");
        // 14 rows: three, the one above, ten lines; with two digits the tenth note goes to a line
        // of its own, on page 2, where it has the number 1
        Facingleaf x = Drafts.book(30, 14);
        x.setByPage(true);
        Drafts.paragraph(x, 0, "8 8 8 3 8 8 8 3 1N1 1N1 1N1 1N1 1N1 1N1 1N1 1N1 1N1 2N1");
        due.is("one digit, two digits, which are the widest", x.compose(false), 3);
        due.is("widthOf(0, 0, 17)", x.widthOf(0, 0, 17), 4);
        due.is("noteOf(0, 0, 17)", x.noteOf(0, 0, 17), 1);
        due.is("pageOfRow(0, 3)", x.pageOfRow(0, 3), 2);
        due.promise(29, "isSettled");
        due.is("isSettled()", x.isSettled(), true);
    }

    private static void movedChapter() {
        due.promise(11, "compose");
        // the reference takes a line more, and with it chapter 0 a third page
        Facingleaf x = Drafts.book(8, 8);
        Drafts.rows(x, 0, 8);
        Drafts.paragraph(x, 0, "5 R1 8 8 8 8 8 8 4L1");
        Drafts.rows(x, 1, 8);
        due.is("2, 5 and then 6 wide", x.compose(false), 3);
        due.is("textOf(0, 1, 1)", x.textOf(0, 1, 1), 13);
        due.is("pageOf(0, true)", x.pageOf(0, true), 3);
        due.is("a chapter that is as it was", x.pageOf(1, false), 5);
        due.is("kindOf(4)", x.kindOf(4), 4);
        due.is("broken()", x.broken(), 5);
    }

    private static void manyReferences() {
        due.promise(11, "compose");
        Facingleaf x = Drafts.book(30, 14);
        for (int k = 0; k < 9; k++) {
            for (int w = 0; w < 20; w++) {
                x.refer(k);
            }
            x.paragraph(k / 3);
        }
        due.is("180 references", x.compose(false), 1);
        due.is("the last one", x.widthOf(2, 2, 19), 2);
        due.is("textOf(2, 2, 19)", x.textOf(2, 2, 19), 0);
        due.is("20 of 2 in two lines of 30", x.lines(2, 2), 2);
    }

    private static void inVain() {
        due.promise(11, "compose");
        Facingleaf x = Drafts.book(30, 8);
        // the row, the one above, four and four lines, and one
        Drafts.paragraph(x, 1, "1N4 1N4 1N4");
        due.is("compose(false)", x.compose(false), -1);
        due.is("isComposed()", x.isComposed(), false);
        due.isThrown(Due.STATE, "print()", x::print);
        x.setMeasures(30, 10);
        due.is("compose(false)", x.compose(false), -1);
        x.setMeasures(30, 11);
        due.is("compose(false)", x.compose(false), 1);
        due.is("lines of notes", x.onPage(1, 2), 9);
        // a head that needs three rows, of which two must be on pages of their own
        x = Drafts.book(30, 8);
        x.head(0, 0, 2);
        Drafts.paragraph(x, 0, "1N4");
        Drafts.paragraph(x, 0, "1N4");
        Drafts.paragraph(x, 0, "1");
        due.is("with a need of two rows", x.compose(false), -1);
        x = Drafts.book(30, 8);
        x.head(0, 0, 1);
        Drafts.paragraph(x, 0, "1N4");
        Drafts.paragraph(x, 0, "1N4");
        Drafts.paragraph(x, 0, "1");
        due.is("with a need of one row", x.compose(false), 1);
    }

    private static void print() {
        due.promise(12, "print");
        Facingleaf x = Drafts.book(8, 8);
        due.isThrown(Due.STATE, "print()", x::print);
        due.promise(11, "compose");
        due.isThrown(Due.STATE, "nothing was printed", () -> x.compose(true));
        Drafts.rows(x, 0, 9);
        x.compose(false);
        due.isThrown(Due.STATE, "composed, and not printed", () -> x.compose(true));
        due.is("it stays composed", x.isComposed(), true);
        due.promise(12, "print");
        due.is("print()", x.print(), 2);
        due.is("print() again", x.print(), 2);
        due.is("isComposed()", x.isComposed(), true);
        Drafts.rows(x, 1, 1);
        due.isThrown(Due.STATE, "print() of a book that was composed", x::print);
        due.promise(11, "compose");
        due.is("compose(true) needs no composed book", x.compose(true), 1);
        due.promise(12, "print");
        due.is("print()", x.print(), 3);
    }

    private static Facingleaf printed(int chapter) {
        Facingleaf x = Drafts.book(8, 8);
        // 5 | 3 costs 9
        Drafts.rows(x, chapter, 5);
        Drafts.rows(x, chapter, 3);
        x.compose(false);
        x.print();
        return x;
    }

    private static void isKept(Facingleaf x, int chapter, boolean keep, boolean isKept) {
        x.compose(keep);
        due.is("rows on the first page", x.onPage(x.pageOf(chapter, false), 0), isKept ? 5 : 7);
        due.is("cost(" + chapter + ")", x.cost(chapter), isKept ? 9 : 0);
    }

    private static void keep() {
        due.promise(11, "compose");
        Facingleaf x = printed(0);
        Drafts.replace(x, 0, 1, "8 8");
        isKept(x, 0, true, true);
        isKept(x, 0, false, false);
        isKept(x, 0, true, true);
        x.setMeasures(9, 8);
        x.compose(true);
        due.is("not with another width", x.onPage(1, 0), 7);
        x.setMeasures(8, 9);
        x.compose(true);
        due.is("not with another depth", x.onPage(1, 0), 7);
        x.setMeasures(8, 8);
        isKept(x, 0, true, true);
        x.setByPage(true);
        isKept(x, 0, true, true);
        Drafts.replace(x, 0, 0, Drafts.eights(5));
        isKept(x, 0, true, false);
        x.print();
        isKept(x, 0, true, false);
    }

    private static void keepFirstRow() {
        due.promise(11, "compose");
        // 1, blank, 4 lacks 2, of which the blank takes 1
        Facingleaf x = Drafts.book(8, 8);
        Drafts.rows(x, 0, 1);
        Drafts.rows(x, 0, 4);
        Drafts.rows(x, 0, 3);
        x.compose(false);
        x.print();
        Drafts.replace(x, 0, 2, "8");
        x.compose(true);
        due.is("it is kept", 10 * x.onPage(1, 0) + x.onPage(2, 0), 51);
        due.is("cost(0)", x.cost(0), 2);
        Drafts.replace(x, 0, 0, "8");
        x.compose(true);
        due.is("its first row is another", x.onPage(1, 0), 6);
        due.is("cost(0)", x.cost(0), 0);
    }

    private static void keepWhereItBegins() {
        due.promise(11, "compose");
        Facingleaf x = printed(1);
        Drafts.replace(x, 1, 1, "8 8");
        isKept(x, 1, true, true);
        Drafts.rows(x, 0, 1);
        isKept(x, 1, true, false);
        due.is("it begins on page 3", x.pageOf(1, false), 3);
        x = printed(1);
        Drafts.replace(x, 1, 1, "8 8");
        x.head(2, 0, 1);
        // the contents move it
        isKept(x, 1, true, false);
    }

    private static void keepNotTheLast() {
        due.promise(11, "compose");
        Facingleaf x = printed(0);
        // the last page with rows is made anew: three rows, a blank, and two
        Drafts.rows(x, 0, 2);
        x.compose(true);
        due.is("onPage(2, 0)", x.onPage(2, 0), 5);
        due.is("cost(0)", x.cost(0), 9);
        // 5, blank, 2 of 3 | 1, blank, 5 | 3, blank, 3 of 5 | 2, blank, 3
        x = Drafts.book(8, 8);
        for (int k = 0; k < 3; k++) {
            Drafts.rows(x, 0, 5);
            Drafts.rows(x, 0, 3);
        }
        x.compose(false);
        due.is("cost(0)", x.cost(0), 15 + 1 + 1);
        x.print();
        Drafts.replace(x, 0, 3, Drafts.eights(4));
        x.compose(true);
        due.is("two pages are kept", 10 * x.onPage(1, 0) + x.onPage(2, 0), 76);
        due.is("the third one is another: 4, blank, 3 of 5", x.onPage(3, 0), 7);
        due.is("cost(0)", x.cost(0), 15 + 1);
        x.compose(false);
        due.is("without them it is", x.cost(0), 13);
    }

    private static void keepFloats() {
        due.promise(11, "compose");
        // the float is late by a page: 7 rows, 1 lacking, 3 late | float and the rest
        Facingleaf x = Drafts.book(8, 8);
        Drafts.paragraph(x, 0, "8 8 8 8 8 8 8F3");
        Drafts.paragraph(x, 0, "8 8");
        x.compose(false);
        due.is("rows, floats", 10 * x.onPage(1, 0) + x.onPage(1, 1), 70);
        x.print();
        Drafts.replace(x, 0, 1, "8");
        x.compose(true);
        due.is("rows, floats", 10 * x.onPage(1, 0) + x.onPage(1, 1), 70);
        due.is("the float is on page 2", x.onPage(2, 1), 1);
    }

    public static void main(String[] args) {
        rounds();
        threeRounds();
        rings();
        ringOfAll();
        ringFromTheFirstRound();
        movedChapter();
        manyReferences();
        inVain();
        print();
        keep();
        keepFirstRow();
        keepWhereItBegins();
        keepNotTheLast();
        keepFloats();
        due.end();
    }
}
