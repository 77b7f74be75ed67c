/** Promises 30 to 33: texts of references, numbers of notes, running heads, margins. */
public final class TextsTest {

    private static final Due due = new Due("TextsTest");

    private TextsTest() { }

    private static void texts() {
        due.promise(30, "textOf");
        Facingleaf x = Drafts.book(8, 8);
        // page 1 has a reference of each kind, page 2 as well
        Drafts.paragraph(x, 0, "4L1 R1 R2 R3 R9 8 8");
        Drafts.paragraph(x, 0, "8 4L2 R1 R2 R3 R4 8");
        Drafts.paragraph(x, 1, "4L3 R1 4L4");
        x.compose(false);
        due.is("pageOfRow(0, 6)", x.pageOfRow(0, 6), 1);
        due.is("pageOfRow(0, 7)", x.pageOfRow(0, 7), 2);
        due.is("above", x.textOf(0, 0, 1), 1);
        due.is("overleaf", x.textOf(0, 0, 2), 2);
        due.is("page 3 from page 1", x.textOf(0, 0, 3), 13);
        due.is("a label that there is not", x.textOf(0, 0, 4), 0);
        due.is("no reference", x.textOf(0, 0, 0), -1);
        due.is("a plain word", x.textOf(0, 0, 5), -1);
        due.is("the page ahead", x.textOf(0, 1, 2), 11);
        due.is("below", x.textOf(0, 1, 3), 1);
        due.is("the next page, but from an even one", x.textOf(0, 1, 4), 13);
        due.is("widthOf overleaf", x.widthOf(0, 0, 2), 8);
        due.is("widthOf below", x.widthOf(0, 1, 3), 5);
        due.is("widthOf page 3", x.widthOf(0, 1, 4), 6);
        due.is("widthOf none", x.widthOf(0, 0, 4), 2);
        due.is("page 1 from page 3", x.textOf(1, 0, 1), 11);
        due.isThrown(Due.INDEX, "textOf(0, 0, 7)", () -> x.textOf(0, 0, 7));
        due.isThrown(Due.INDEX, "textOf(0, 0, -1)", () -> x.textOf(0, 0, -1));
        due.isThrown(Due.INDEX, "textOf(0, 2, 0)", () -> x.textOf(0, 2, 0));
        due.isThrown(Due.INDEX, "textOf(3, 0, 0)", () -> x.textOf(3, 0, 0));
        x.clear();
        Drafts.replace(x, 1, 0, "4");
        due.isThrown(Due.STATE, "textOf(0, 0, 0)", () -> x.textOf(0, 0, 0));
        due.isThrown(Due.INDEX, "what is named first", () -> x.textOf(0, 0, 7));
        x.compose(false);
        due.is("a label that is gone", x.textOf(0, 0, 3), 0);
    }

    private static void farPages() {
        due.promise(30, "textOf");
        Facingleaf x = Drafts.book(8, 8);
        for (int k = 0; k < 3; k++) {
            Drafts.rows(x, 0, 20);
        }
        Drafts.paragraph(x, 1, "8L0 R1 8 8 8 8 8 R0 8L1");
        x.compose(false);
        due.is("pageOf(1, false)", x.pageOf(1, false), 9);
        due.is("pageOf(1, true)", x.pageOf(1, true), 10);
        due.is("overleaf", x.textOf(1, 0, 1), 2);
        due.is("page 9", x.textOf(1, 0, 7), 19);
        due.is("one digit", x.widthOf(1, 0, 7), 6);
        Drafts.paragraph(x, 2, "R1");
        x.compose(false);
        due.is("page 10", x.textOf(2, 0, 0), 20);
        due.is("two digits", x.widthOf(2, 0, 0), 7);
    }

    private static void notes() {
        due.promise(31, "noteOf");
        Facingleaf x = Drafts.book(8, 8);
        Drafts.paragraph(x, 0, "7N1 8 7N1 8 8");
        Drafts.paragraph(x, 0, "7N1 7N1 8");
        Drafts.paragraph(x, 1, "8 7N1");
        due.isThrown(Due.STATE, "noteOf(0, 0, 0)", () -> x.noteOf(0, 0, 0));
        due.isThrown(Due.INDEX, "noteOf(0, 0, 5)", () -> x.noteOf(0, 0, 5));
        x.compose(false);
        // five rows, and two lines with the row above them
        due.is("pageOfRow(0, 5)", x.pageOfRow(0, 5), 2);
        int[][] chapters = {{0, 0, 0, 1}, {0, 0, 1, 0}, {0, 0, 2, 2}, {0, 1, 0, 3}, {0, 1, 1, 4},
            {0, 1, 2, 0}, {1, 0, 0, 0}, {1, 0, 1, 1}};
        for (int[] one : chapters) {
            due.is("by chapters", x.noteOf(one[0], one[1], one[2]), one[3]);
        }
        x.setByPage(true);
        x.compose(false);
        int[][] pages = {{0, 0, 0, 1}, {0, 0, 2, 2}, {0, 1, 0, 1}, {0, 1, 1, 2}, {1, 0, 1, 1}};
        for (int[] one : pages) {
            due.is("by pages", x.noteOf(one[0], one[1], one[2]), one[3]);
        }
        due.isThrown(Due.INDEX, "noteOf(0, 0, 5)", () -> x.noteOf(0, 0, 5));
        due.isThrown(Due.INDEX, "noteOf(0, 0, -1)", () -> x.noteOf(0, 0, -1));
        due.isThrown(Due.INDEX, "noteOf(0, 2, 0)", () -> x.noteOf(0, 2, 0));
        due.isThrown(Due.INDEX, "noteOf(-1, 0, 0)", () -> x.noteOf(-1, 0, 0));
    }

    private static void lateNotes() {
        due.promise(31, "noteOf");
        // the second note's lines go over, but its word is on page 1
        Facingleaf x = Drafts.book(8, 8);
        x.setByPage(true);
        Drafts.paragraph(x, 0, "7N4 7N4 8 8 8");
        Drafts.paragraph(x, 0, "7N1");
        x.compose(false);
        due.is("lines on page 1", x.onPage(1, 2), 5);
        due.is("lines on page 2", x.onPage(2, 2), 3);
        due.is("the second of page 1", x.noteOf(0, 0, 1), 2);
        due.is("the first of page 3", x.noteOf(0, 1, 0), 1);
    }

    private static void runningHeads() {
        due.promise(32, "headOf");
        Facingleaf x = Drafts.book(8, 8);
        due.isThrown(Due.STATE, "headOf(1, true)", () -> x.headOf(1, true));
        due.isThrown(Due.INDEX, "headOf(0, true)", () -> x.headOf(0, true));
        Drafts.rows(x, 0, 8);
        x.head(0, 0, 1);
        Drafts.paragraph(x, 0, "8");
        x.head(0, 1, 1);
        Drafts.paragraph(x, 0, "8");
        x.head(1, 0, 1);
        Drafts.paragraph(x, 1, Drafts.eights(4) + " 2F2 2F2 2F2");
        Drafts.paragraph(x, 2, "8");
        x.seeAlso(0, 1);
        x.compose(false);
        // contents, 8 | two heads and their rows, a head, 5 | three floats, 1 | index
        int[] kinds = {3, 3, 0, 0, 1, 1, 2, 5};
        int[] first = {-1, -1, -1, 1, 0, 0, -1, -1};
        int[] last = {-1, -1, -1, 3, 0, 0, -1, -1};
        for (int p = 1; p <= 8; p++) {
            due.is("kindOf(" + p + ")", x.kindOf(p), kinds[p - 1]);
            due.is("headOf(" + p + ", false)", x.headOf(p, false), first[p - 1]);
            due.is("headOf(" + p + ", true)", x.headOf(p, true), last[p - 1]);
        }
        due.is("a page without rows", x.onPage(6, 0), 0);
        due.isThrown(Due.INDEX, "headOf(9, false)", () -> x.headOf(9, false));
        due.isThrown(Due.INDEX, "headOf(0, false)", () -> x.headOf(0, false));
    }

    private static void headBehind() {
        due.promise(32, "headOf");
        // the row with five lines of notes has no room for a head below it
        Facingleaf x = Drafts.book(8, 8);
        Drafts.paragraph(x, 0, "1N4 2N1");
        x.head(0, 0, 1);
        Drafts.paragraph(x, 0, "8");
        x.compose(false);
        due.is("rows of page 3", x.onPage(3, 0), 1);
        due.is("a head that is on the next page", x.headOf(3, false), -1);
        due.is("headOf(4, true)", x.headOf(4, true), 1);
    }

    private static void margins() {
        due.promise(33, "marginOf");
        Facingleaf x = Drafts.book(30, 8);
        Drafts.paragraph(x, 0, "1M3 1M3 1 1M3 1M2 1M1");
        due.isThrown(Due.STATE, "marginOf(0, 0, 0)", () -> x.marginOf(0, 0, 0));
        due.isThrown(Due.INDEX, "marginOf(0, 0, 6)", () -> x.marginOf(0, 0, 6));
        x.compose(false);
        due.is("at its row", x.marginOf(0, 0, 0), 100);
        due.is("pushed behind the one ahead", x.marginOf(0, 0, 1), 103);
        due.is("a word without a margin", x.marginOf(0, 0, 2), -1);
        due.is("6 and 3 are below 8: lost", x.marginOf(0, 0, 3), -1);
        due.is("those behind it are put all the same", x.marginOf(0, 0, 4), 106);
        due.is("full", x.marginOf(0, 0, 5), -1);
        due.isThrown(Due.INDEX, "marginOf(0, 0, 6)", () -> x.marginOf(0, 0, 6));
        due.isThrown(Due.INDEX, "marginOf(0, 0, -1)", () -> x.marginOf(0, 0, -1));
        due.isThrown(Due.INDEX, "marginOf(0, 1, 0)", () -> x.marginOf(0, 1, 0));
        due.isThrown(Due.INDEX, "marginOf(3, 0, 0)", () -> x.marginOf(3, 0, 0));
    }

    private static void overTheFold() {
        due.promise(33, "marginOf");
        Facingleaf x = Drafts.book(8, 8);
        Drafts.paragraph(x, 0, "8 8 8 8 8 2M2 5 2M3 2M3");
        Drafts.paragraph(x, 0, "2M3 8M2");
        x.compose(false);
        // lines 8 8 8 8 8 | 2 5, then 2 2 on the last one; all seven rows on page 1
        due.is("rows on page 1", x.onPage(1, 0), 7);
        due.is("at row 5", x.marginOf(0, 0, 5), 105);
        due.is("behind it is 7, with 3 beyond 8: over the fold, at its first place",
            x.marginOf(0, 0, 7), 200);
        due.is("the next one over the fold behind it", x.marginOf(0, 0, 8), 203);
        due.is("then those of page 2: for three rows there is no place, it is lost",
            x.marginOf(0, 1, 0), -1);
        due.is("two rows high", x.marginOf(0, 1, 1), 206);
        // wanted at 7, it is put where it ends at 8, which is behind the one ahead
        Drafts.replace(x, 0, 0, "8 8 8 8 8 1M2 6 2M1 2M3");
        x.compose(false);
        due.is("at row 5", x.marginOf(0, 0, 5), 105);
        due.is("at 7, since the one ahead ends there", x.marginOf(0, 0, 7), 107);
        due.is("over the fold", x.marginOf(0, 0, 8), 200);
        Drafts.replace(x, 0, 0, "8 8 8 8 8 8 8M3");
        x.compose(false);
        due.is("wanted at 6, it ends at 8", x.marginOf(0, 0, 6), 105);
    }

    private static void places() {
        due.promise(33, "marginOf");
        // a float at the top, a row, a blank, two rows, and the second float at the foot
        Facingleaf x = Drafts.book(8, 10);
        Drafts.paragraph(x, 0, "8M1 2F2 2F2");
        Drafts.paragraph(x, 0, "8M1 8M1");
        x.compose(false);
        due.is("below the float at the top", x.marginOf(0, 0, 0), 102);
        due.is("below a row more, and a blank", x.marginOf(0, 1, 0), 105);
        due.is("marginOf(0, 1, 1)", x.marginOf(0, 1, 1), 106);
        // 2, blank, 2, blank, 1 lacks 1: the upper blank grows
        x = Drafts.book(8, 8);
        Drafts.paragraph(x, 0, "8 8");
        Drafts.paragraph(x, 0, "8M1 8");
        Drafts.paragraph(x, 0, "8M1");
        Drafts.rows(x, 0, 8);
        x.compose(false);
        due.is("grown", x.onPage(1, 3), 1);
        due.is("below the blank that grew", x.marginOf(0, 1, 0), 104);
        due.is("the other did not grow", x.marginOf(0, 2, 0), 107);
        // a page without rows has no margins
        x = Drafts.book(30, 8);
        Drafts.paragraph(x, 0, "1M3 1M3 1M3 1N4 1N4");
        x.compose(false);
        due.is("pageOf(0, true)", x.pageOf(0, true), 2);
        due.is("no rows there", x.onPage(2, 0), 0);
        due.is("lost", x.marginOf(0, 0, 2), -1);
    }

    public static void main(String[] args) {
        texts();
        farPages();
        notes();
        lateNotes();
        runningHeads();
        headBehind();
        margins();
        overTheFold();
        places();
        due.end();
    }
}
