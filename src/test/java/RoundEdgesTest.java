import java.util.List;

/**
 * The edges of "Rounds", of keeping what was printed, and of the promises 11, 12, 13 and 29. Books
 * that take up to twelve rounds, and more, stand in RoundsTest.
 */
public final class RoundEdgesTest {

    private static final Due due = new Due("RoundEdgesTest");

    private RoundEdgesTest() { }

    private static void twoWideAtFirst() {
        due.sentence("11", "The first one takes all references to be 2 wide");
        Facingleaf x = Drafts.book(30, 8);
        Drafts.paragraph(x, 0, "R0 R9");
        due.is("without labels that is right at once", x.compose(false), 1);
        Drafts.paragraph(x, 0, "1L9");
        due.is("with a label it is not", x.compose(false), 2);
        due.is("each composing begins so", x.compose(false), 2);
        due.is("2 and 5 wide", 10 * x.widthOf(0, 0, 0) + x.widthOf(0, 0, 1), 25);
    }

    private static void oneDigitAtFirst() {
        due.sentence("11", "if notes go by pages, all their numbers to have one digit");
        Facingleaf x = Drafts.book(30, 14);
        Drafts.paragraph(x, 0, "1N1 1N1 1N1 1N1 1N1 1N1 1N1 1N1 1N1");
        Drafts.paragraph(x, 0, "1");
        x.setByPage(true);
        due.is("nine on a page: right at once", x.compose(false), 1);
        Drafts.replace(x, 0, 1, "1N1");
        due.is("ten on a page", x.compose(false), 2);
        due.is("the tenth: two digits", x.widthOf(0, 1, 0), 3);
        x.setByPage(false);
        due.is("by chapters they are known", x.compose(false), 1);
        due.is("the tenth: two digits", x.widthOf(0, 1, 0), 3);
    }

    private static void theLastRound() {
        due.sentence("11", "If that is what it took, it was the last one");
        Facingleaf x = Drafts.book(8, 8);
        due.is("an empty book", x.compose(false), 1);
        Drafts.paragraph(x, 0, "8");
        due.is("nothing depends on pages", x.compose(false), 1);
        due.sentence("11", "otherwise the next round takes that");
        // 2, then 5 wide, by which the label comes on page 2: 8
        Drafts.replace(x, 0, 0, "5 R1 8 8 8 8 8 8 4L1");
        due.is("compose(false)", x.compose(false), 3);
        due.is("widthOf(0, 0, 1)", x.widthOf(0, 0, 1), 8);
        due.is("isSettled()", x.isSettled(), false);
    }

    private static void ringFromTheFirstRound() {
        due.sentence("11, 29", "If that was taken in some round already, there is a ring");
        // ten notes on a page need two digits, by which the tenth has no place there
        Facingleaf x = Drafts.book(30, 14);
        x.setByPage(true);
        Drafts.paragraph(x, 0, "8 8 8 3 8 8 8 3 1N1 1N1 1N1 1N1 1N1 1N1 1N1 1N1 1N1 2N1");
        due.is("the second round asks for what the first one took", x.compose(false), 3);
        due.is("isSettled()", x.isSettled(), true);
        due.is("two digits are the widest", x.widthOf(0, 0, 17), 4);
        due.is("though its number has one", x.noteOf(0, 0, 17), 1);
    }

    private static void ringFromALaterRound() {
        due.sentence("11, 16", "all rounds from that one on");
        // 2, 2 and 2 wide: the label is on page 1, and the last reference on page 2: 5, 5 and 6;
        // so the label comes on page 2, from which it is overleaf for the others: 8, 8 and 5;
        // so the second one comes there too: 8, 5 and 5; so it goes back: 8, 8 and 5 again
        Facingleaf x = Drafts.book(10, 8);
        Drafts.paragraph(x, 0, "8 R1");
        Drafts.paragraph(x, 0, "7N1 3N1 R1 2L1 R1");
        due.is("four rounds, of which the third one and the fourth are the ring",
            x.compose(false), 5);
        due.is("isSettled()", x.isSettled(), true);
        due.is("widthOf(0, 0, 1)", x.widthOf(0, 0, 1), 8);
        due.is("widthOf(0, 1, 2)", x.widthOf(0, 1, 2), 8);
        due.is("the second round took 6, but is none of the ring", x.widthOf(0, 1, 4), 5);
    }

    /** Both 5 wide: the second one comes on page 2. 6 wide there: it comes back to page 1. */
    private static Facingleaf ring() {
        Facingleaf x = Drafts.book(10, 8);
        Drafts.paragraph(x, 0, "8 6L1");
        Drafts.paragraph(x, 0, "2 8 8 R1 R1 4 8");
        return x;
    }

    private static void theWidestOfTheRing() {
        due.sentence("11, 16, 30", "and is the last one, whatever it finds");
        Facingleaf x = ring();
        due.is("5 and 5, 5 and 6, and these ask for 5 and 5", x.compose(false), 4);
        due.is("6 wide", x.widthOf(0, 1, 4), 6);
        due.is("but its text is 5 wide", x.textOf(0, 1, 4), 1);
        // 2 and 2, 5 and 5, 8 and 8, and these ask for 5 and 5
        x = Drafts.book(11, 8);
        Drafts.paragraph(x, 0, "R1");
        Drafts.paragraph(x, 0, "8");
        Drafts.paragraph(x, 0, "8 8 R1 3 2L1 8 8");
        due.is("compose(false)", x.compose(false), 4);
        due.is("both are 8 wide", 10 * x.widthOf(0, 0, 0) + x.widthOf(0, 2, 2), 88);
        due.is("but their texts are 5 wide", 10 * x.textOf(0, 0, 0) + x.textOf(0, 2, 2), 11);
    }

    private static void settled() {
        due.sentence("29", "the book is settled then");
        Facingleaf x = ring();
        due.isThrown(Due.STATE, "isSettled()", x::isSettled);
        x.compose(false);
        due.is("with a ring", x.isSettled(), true);
        x.word(1, 0, 0);
        due.is("the draft is all one", x.isSettled(), true);
        x.clear();
        Drafts.replace(x, 0, 1, "2 8 8 8 8 4 8");
        due.isThrown(Due.STATE, "isSettled()", x::isSettled);
        x.compose(false);
        due.is("without a ring", x.isSettled(), false);
    }

    private static void pagesThatCannotBeMade() {
        due.sentence("11, 13", "If the pages of some chapter cannot be made in a round, "
            + "the book is not composed, even if it was.");
        Facingleaf x = Drafts.book(8, 8);
        Drafts.paragraph(x, 0, "7N4 7N4");
        Drafts.paragraph(x, 0, "8 8");
        x.compose(false);
        due.is("five of eight lines", x.onPage(1, 2), 5);
        x.print();
        Drafts.replace(x, 0, 1, "2N3 2N1");
        due.is("compose(false)", x.compose(false), 1);
        due.is("isComposed()", x.isComposed(), true);
        // of the three lines that wait, three, and one, there is no room for seven on page 2
        due.is("with page 1 as it was printed", x.compose(true), -1);
        due.is("isComposed()", x.isComposed(), false);
        due.isThrown(Due.STATE, "print()", x::print);
        due.isThrown(Due.STATE, "pages()", x::pages);
        due.is("compose(false) again", x.compose(false), 1);
    }

    private static void oneChapterThatCannotBeMade() {
        due.sentence("11", "-1 if it cannot be composed");
        for (int c = 0; c < 3; c++) {
            Facingleaf x = Drafts.book(30, 8);
            for (int d = 0; d < 3; d++) {
                Drafts.paragraph(x, d, d == c ? "1N4 1N4 1N4" : "1N4 1N4");
            }
            due.is("chapter " + c, x.compose(false), -1);
            due.is("isComposed()", x.isComposed(), false);
            Drafts.replace(x, c, 0, "1N4 1N4");
            due.is("without its third note", x.compose(false), 1);
        }
        Facingleaf x = Drafts.book(12, 8);
        x.head(1, 0, 3);
        due.is("a head alone can be", x.compose(false), 1);
        for (int k = 0; k < 9; k++) {
            x.head(1, 0, 1);
        }
        due.is("ten heads cannot, as no page can end with one", x.compose(false), -1);
    }

    private static void failsInALaterRound() {
        due.sentence("11", "cannot be made in a round");
        // 2 wide, the reference has the first note in its line; 5 wide, it leaves all three to the
        // next one: these need nine lines, and there is room for six
        Facingleaf x = Drafts.book(13, 8);
        x.head(0, 0, 1);
        Drafts.paragraph(x, 0, "1 R1 5N4 1N4 1N1 3");
        due.is("without the label", x.compose(false), 1);
        due.is("two lines", x.lines(0, 1), 2);
        Drafts.replace(x, 0, 1, "1L1 R1 5N4 1N4 1N1 3");
        due.is("with the label", x.compose(false), -1);
        due.is("isComposed()", x.isComposed(), false);
    }

    private static void failsInTheRoundMore() {
        due.sentence("11", "With a ring one more round is made");
        // 2 and 2, 8 and 5, 6 and 6, and these ask for 8 and 5: the widest are 8 and 6, by which
        // all three notes are in one line
        Facingleaf x = Drafts.book(13, 8);
        Drafts.paragraph(x, 0, "R1 2N3 1N4 3N2 R1 8L1 7");
        due.is("compose(false)", x.compose(false), -1);
        due.is("isComposed()", x.isComposed(), false);
        x.setMeasures(13, 10);
        due.is("there is room for eight lines", x.compose(false) > 0, true);
    }

    private static void composedAgain() {
        due.sentence("11", "Composes the book.");
        Facingleaf x = Drafts.book(8, 8);
        Drafts.rows(x, 0, 8);
        Drafts.paragraph(x, 0, "7N4 R1 4L1");
        x.head(1, 0, 1);
        Drafts.paragraph(x, 1, "8F3 8M1");
        due.is("two rounds: three paragraphs, and one of them again", 10 * x.compose(false)
            + x.broken(), 24);
        List<String> told = Told.all(x);
        due.is("again", x.compose(false), 2);
        due.is("and again: that one in both rounds", 10 * x.compose(false) + x.broken(), 22);
        told.set(told.indexOf("broken 4"), "broken 2");
        due.is("all else is told likewise", Told.all(x), told);
    }

    private static void movedInALaterRound() {
        due.sentence("11, 24",
            "Each round breaks paragraphs by the widths that it takes, makes pages");
        // the reference takes a line more, and with it chapter 0 a third page
        Facingleaf x = Drafts.book(8, 8);
        Drafts.rows(x, 0, 8);
        Drafts.paragraph(x, 0, "5 R1 8 8 8 8 8 8 4L1");
        Drafts.paragraph(x, 1, "8");
        due.is("2, 5 and then 6 wide", x.compose(false), 3);
        due.is("a chapter that is as it was", x.pageOf(1, false), 5);
        due.is("the page of its row", x.pageOfRow(1, 0), 5);
    }

    private static void isOver(String call, Runnable made, Facingleaf x, boolean isOver) {
        x.compose(false);
        due.is("composed ahead of " + call, x.isComposed(), true);
        made.run();
        due.is("composed behind " + call, x.isComposed(), !isOver);
    }

    private static void composedUpTo() {
        due.sentence("13", "up to the next call that sets, adds or replaces something of it");
        Facingleaf x = Drafts.book(8, 8);
        due.is("at first", x.isComposed(), false);
        isOver("setMeasures", () -> x.setMeasures(9, 9), x, true);
        isOver("setByPage", () -> x.setByPage(true), x, true);
        isOver("seeAlso", () -> x.seeAlso(0, 1), x, true);
        isOver("head", () -> x.head(0, 0, 1), x, true);
        isOver("paragraph", () -> Drafts.paragraph(x, 0, "8"), x, true);
        isOver("replace", () -> Drafts.replace(x, 0, 1, "8"), x, true);
        due.sentence("13", "also if that was so already");
        isOver("setMeasures", () -> x.setMeasures(9, 9), x, true);
        isOver("setByPage", () -> x.setByPage(true), x, true);
        isOver("seeAlso", () -> x.seeAlso(0, 1), x, true);
        isOver("seeAlso of none", () -> x.seeAlso(5, -1), x, true);
        isOver("replace by its like", () -> Drafts.replace(x, 0, 1, "8"), x, true);
    }

    private static void draftAndPrintingAreNone() {
        due.sentence("13", "the draft and printing are none");
        Facingleaf x = Drafts.book(8, 8);
        x.head(0, 0, 1);
        isOver("word", () -> x.word(8, 1, 1), x, false);
        isOver("refer", () -> x.refer(1), x, false);
        isOver("clear", () -> x.clear(), x, false);
        isOver("clear of an empty draft", () -> x.clear(), x, false);
        isOver("print", () -> x.print(), x, false);
        isOver("compose", () -> x.compose(true), x, false);
        isOver("a call that throws", () -> due.isThrown(Due.STATE, "", () -> x.paragraph(0)), x,
            false);
        isOver("another", () -> due.isThrown(Due.ARGUMENT, "", () -> x.setMeasures(7, 8)), x,
            false);
    }

    private static void printing() {
        due.sentence("12", "if it is not composed");
        Facingleaf x = Drafts.book(8, 8);
        due.isThrown(Due.STATE, "print()", x::print);
        x.compose(false);
        due.is("no pages", x.print(), 0);
        Drafts.rows(x, 0, 9);
        due.isThrown(Due.STATE, "print()", x::print);
        x.compose(false);
        due.is("two pages", x.print(), 2);
        due.is("again", x.print(), 2);
        Drafts.paragraph(x, 0, "8E0");
        x.compose(false);
        due.is("an index is of the book too", x.print(), 3);
    }

    private static void inPlaceOfWhatWasPrinted() {
        due.sentence("12", "in place of what was printed");
        Facingleaf x = printed(0);
        Drafts.replace(x, 0, 1, "8 8");
        x.compose(false);
        due.is("7 on page 1", x.onPage(1, 0), 7);
        x.compose(true);
        due.is("5 are kept", x.onPage(1, 0), 5);
        x.compose(false);
        x.print();
        x.compose(true);
        due.is("5 were printed no more", x.onPage(1, 0), 7);
    }

    private static void nothingWasPrinted() {
        due.sentence("11", "if keep is true, and nothing was printed");
        Facingleaf x = Drafts.book(8, 8);
        due.isThrown(Due.STATE, "not composed", () -> x.compose(true));
        Drafts.rows(x, 0, 1);
        x.compose(false);
        due.isThrown(Due.STATE, "composed", () -> x.compose(true));
        due.is("it stays composed", x.isComposed(), true);
        x.print();
        due.is("printed", x.compose(true), 1);
        due.sentence("11", "a book need not be composed for this");
        Drafts.rows(x, 0, 1);
        due.is("isComposed()", x.isComposed(), false);
        due.is("compose(true)", x.compose(true), 1);
    }

    /** Five rows on the first page of a chapter, three on the second one, which costs 9. */
    private static Facingleaf printed(int chapter) {
        Facingleaf x = Drafts.book(8, 8);
        Drafts.rows(x, chapter, 5);
        Drafts.rows(x, chapter, 3);
        x.compose(false);
        x.print();
        return x;
    }

    /** The second paragraph has two rows then, with which all can be on one page. */
    private static Facingleaf corrected(int chapter) {
        Facingleaf x = printed(chapter);
        Drafts.replace(x, chapter, 1, "8 8");
        return x;
    }

    private static void isKept(Facingleaf x, int chapter, boolean isKept, String why) {
        due.is("compose", x.compose(true) > 0, true);
        due.is(why, x.onPage(x.pageOf(chapter, false), 0), isKept ? 5 : 7);
        due.is(why + ": its cost", x.cost(chapter), isKept ? 9 : 0);
    }

    private static void keepTheMeasures() {
        due.sentence("11", "as long as the width and the depth are as then");
        Facingleaf x = corrected(0);
        isKept(x, 0, true, "as then");
        x.setMeasures(9, 8);
        isKept(x, 0, false, "another width");
        x.setMeasures(8, 9);
        isKept(x, 0, false, "another depth");
        x.setMeasures(30, 14);
        x.setMeasures(8, 8);
        isKept(x, 0, true, "as then again");
        x.setByPage(true);
        isKept(x, 0, true, "whether notes go by pages is all one");
        x.compose(false);
        due.is("if it is not asked for, nothing is kept", x.onPage(1, 0), 7);
    }

    private static void keepWhereItBegins() {
        due.sentence("11", "the chapter begins on the same page as then");
        Facingleaf x = Drafts.book(8, 8);
        Drafts.rows(x, 0, 8);
        Drafts.rows(x, 1, 5);
        Drafts.rows(x, 1, 3);
        x.compose(false);
        x.print();
        Drafts.replace(x, 1, 1, "8 8");
        isKept(x, 1, true, "on page 3");
        Drafts.replace(x, 0, 0, Drafts.eights(17));
        isKept(x, 1, false, "on page 5");
        Drafts.replace(x, 0, 0, Drafts.eights(16));
        isKept(x, 1, true, "on page 3 again, behind another page");
        x.head(2, 0, 1);
        isKept(x, 1, false, "behind the contents");
    }

    private static void keepNoneOfANewChapter() {
        due.sentence("11", "the first pages of a chapter are as they were printed");
        Facingleaf x = corrected(2);
        Drafts.rows(x, 0, 5);
        Drafts.rows(x, 0, 2);
        x.compose(true);
        due.is("a chapter that was not there", x.onPage(1, 0), 7);
        due.is("it has moved the other one", x.onPage(3, 0), 7);
        x = corrected(0);
        Drafts.rows(x, 1, 5);
        Drafts.rows(x, 1, 2);
        isKept(x, 0, true, "one that was");
        due.is("and a new one", x.onPage(3, 0), 7);
    }

    private static void keepNotTheLastWithRows() {
        due.sentence("11", "the page was not the last one of it with rows");
        Facingleaf x = printed(0);
        Drafts.rows(x, 0, 2);
        isKept(x, 0, true, "the first one is kept");
        due.is("the last one is not: three rows, a blank, two", x.onPage(2, 0), 5);
        // a page with rows, and one without behind it
        x = Drafts.book(8, 8);
        Drafts.paragraph(x, 0, "2F2 2F2 2F2");
        x.compose(false);
        due.is("row and floats", 10 * x.onPage(1, 0) + x.onPage(1, 1), 12);
        due.is("pages()", x.pages(), 2);
        x.print();
        Drafts.rows(x, 0, 2);
        x.compose(true);
        due.is("it had the last rows", x.onPage(1, 0), 3);
    }

    private static void keepTheSameWords() {
        due.sentence("11",
            "each row up to the end of the page has the same words of the same item");
        Facingleaf x = Drafts.book(8, 8);
        Drafts.paragraph(x, 0, "5 R1 8 8 8 8");
        Drafts.rows(x, 0, 3);
        x.compose(false);
        x.print();
        Drafts.replace(x, 0, 1, "8 8");
        isKept(x, 0, true, "no word has the label");
        Drafts.replace(x, 0, 1, "8 4L1");
        due.is("2, and then 8 wide", x.compose(true), 2);
        due.is("5 and 8 are two rows", x.onPage(1, 0), 6);
        Drafts.replace(x, 0, 1, "8 8");
        isKept(x, 0, true, "the words are as then again");
        // page 3, 6 wide, is another text with the same words in the row
        x = Drafts.book(8, 8);
        Drafts.paragraph(x, 0, "1 R1 8 8 8 8");
        Drafts.rows(x, 0, 3);
        x.compose(false);
        x.print();
        Drafts.replace(x, 0, 1, "8 8");
        Drafts.paragraph(x, 1, "4L1");
        isKept(x, 0, true, "another text alone");
        due.is("textOf(0, 0, 1)", x.textOf(0, 0, 1), 13);
    }

    private static void keepWhatWasNotReplaced() {
        due.sentence("11", "as then, which was not replaced since");
        Facingleaf x = corrected(0);
        Drafts.replace(x, 0, 0, Drafts.eights(5));
        isKept(x, 0, false, "replaced by its like");
        x = printed(0);
        Drafts.replace(x, 0, 0, Drafts.eights(5));
        x.compose(false);
        x.print();
        Drafts.replace(x, 0, 1, "8 8");
        isKept(x, 0, true, "replaced ahead of printing");
        // the first row alone: 1, a blank that grew, and 4
        x = Drafts.book(8, 8);
        Drafts.rows(x, 0, 1);
        Drafts.rows(x, 0, 4);
        Drafts.rows(x, 0, 3);
        x.compose(false);
        x.print();
        Drafts.replace(x, 0, 2, "8");
        x.compose(true);
        due.is("kept", x.onPage(1, 0), 5);
        Drafts.replace(x, 0, 0, "8");
        x.compose(true);
        due.is("1, 4 and 1 with two blanks", x.onPage(1, 0), 6);
    }

    private static void keepOneAfterTheOther() {
        due.sentence("11", "one after the other");
        Facingleaf x = Drafts.book(8, 8);
        Drafts.rows(x, 0, 8);
        Drafts.rows(x, 0, 5);
        Drafts.rows(x, 0, 3);
        x.compose(false);
        x.print();
        due.is("6; 2, a blank and 5; 3", x.cost(0), 4);
        Drafts.replace(x, 0, 2, "8 8");
        x.compose(true);
        due.is("two pages are kept", 10 * x.onPage(1, 0) + x.onPage(2, 0), 67);
        due.is("cost(0)", x.cost(0), 4);
        Drafts.replace(x, 0, 0, Drafts.eights(8));
        x.compose(true);
        due.is("page 1 is not kept, and so page 2 is not", x.onPage(1, 0), 8);
        due.is("all of them anew", x.cost(0), 0);
    }

    private static void keepMoreThanOne() {
        due.sentence("11", "the first pages of a chapter are as they were printed");
        // 4, a blank, 3 | 5, which lack 3 | 3
        Facingleaf x = Drafts.book(8, 8);
        for (int rows : new int[] {4, 3, 5, 3}) {
            Drafts.rows(x, 0, rows);
        }
        x.compose(false);
        x.print();
        due.is("cost(0)", x.cost(0), 9);
        Drafts.replace(x, 0, 3, "8 8");
        x.compose(true);
        due.is("both are kept", 10 * x.onPage(1, 0) + x.onPage(2, 0), 75);
        due.is("cost(0)", x.cost(0), 9);
        x.compose(false);
        due.is("none is", 10 * x.onPage(1, 0) + x.onPage(2, 0), 77);
        due.is("cost(0)", x.cost(0), 0);
    }

    private static void keepAndMakeTheOthers() {
        due.sentence("11, 27", "behind these pages the cost of the others is the least");
        // 5, a blank, 2 of 3 | 1, a blank, 5 | 3, a blank, 3 of 5 | 2, a blank, 3
        Facingleaf x = Drafts.book(8, 8);
        for (int k = 0; k < 3; k++) {
            Drafts.rows(x, 0, 5);
            Drafts.rows(x, 0, 3);
        }
        x.compose(false);
        due.is("cost(0)", x.cost(0), 15 + 1 + 1);
        x.print();
        Drafts.replace(x, 0, 3, Drafts.eights(4));
        x.compose(true);
        due.is("two pages are kept", 10 * x.onPage(1, 0) + x.onPage(2, 0), 76);
        due.is("the third one is 4, a blank, 3 of 5", x.onPage(3, 0), 7);
        due.is("cost(0)", x.cost(0), 15 + 1);
        x.compose(false);
        due.is("all of them anew", x.cost(0), 13);
    }

    private static void keepFloatsAndNotes() {
        due.sentence("11, 26", "are as they were printed");
        // the float is late by a page, for which seven rows are on page 1
        Facingleaf x = Drafts.book(8, 8);
        Drafts.paragraph(x, 0, "8 8 8 8 8 8 8F3");
        Drafts.rows(x, 0, 2);
        x.compose(false);
        due.is("rows, floats", 10 * x.onPage(1, 0) + x.onPage(1, 1), 70);
        x.print();
        Drafts.replace(x, 0, 1, "8");
        x.compose(true);
        due.is("rows, floats", 10 * x.onPage(1, 0) + x.onPage(1, 1), 70);
        due.is("the float is on page 2", x.onPage(2, 1), 1);
        // with the float, two of four lines would be late: it is late itself
        x = Drafts.book(8, 8);
        Drafts.paragraph(x, 0, "8 8 3N4 3F2");
        Drafts.rows(x, 0, 2);
        x.compose(false);
        due.is("floats, lines of page 1", 10 * x.onPage(1, 1) + x.onPage(1, 2), 4);
        x.print();
        Drafts.replace(x, 0, 1, "8");
        x.compose(true);
        due.is("floats, lines of page 1", 10 * x.onPage(1, 1) + x.onPage(1, 2), 4);
        due.is("floats, lines of page 2", 10 * x.onPage(2, 1) + x.onPage(2, 2), 10);
        // five of eight lines: three are left to page 2
        x = Drafts.book(8, 8);
        Drafts.paragraph(x, 0, "7N4 7N4");
        Drafts.rows(x, 0, 3);
        x.compose(false);
        x.print();
        Drafts.replace(x, 0, 1, "8");
        x.compose(true);
        due.is("page 1", 10 * x.onPage(1, 0) + x.onPage(1, 2), 25);
        due.is("page 2", 10 * x.onPage(2, 0) + x.onPage(2, 2), 13);
        due.is("cost(0)", x.cost(0), 6);
    }

    private static void keeping() {
        keepTheMeasures();
        keepWhereItBegins();
        keepNoneOfANewChapter();
        keepNotTheLastWithRows();
        keepTheSameWords();
        keepWhatWasNotReplaced();
        keepOneAfterTheOther();
        keepMoreThanOne();
        keepAndMakeTheOthers();
        keepFloatsAndNotes();
    }

    public static void main(String[] args) {
        twoWideAtFirst();
        oneDigitAtFirst();
        theLastRound();
        ringFromTheFirstRound();
        ringFromALaterRound();
        theWidestOfTheRing();
        settled();
        pagesThatCannotBeMade();
        oneChapterThatCannotBeMade();
        failsInALaterRound();
        failsInTheRoundMore();
        composedAgain();
        movedInALaterRound();
        composedUpTo();
        draftAndPrintingAreNone();
        printing();
        inPlaceOfWhatWasPrinted();
        nothingWasPrinted();
        keeping();
        due.end();
    }
}
