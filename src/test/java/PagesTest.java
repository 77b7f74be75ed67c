/** Promises 22 to 28: pages, what is on them, and their costs. Most are of 8 rows, each one word. */
public final class PagesTest {

    private static final Due due = new Due("PagesTest");

    private PagesTest() { }

    /** Compares the rows, floats, lines of notes, grown rows, and how far a page is filled. */
    private static void isPage(Facingleaf x, int page, int... want) {
        for (int what = 0; what < want.length; what++) {
            due.is("onPage(" + page + ", " + what + ")", x.onPage(page, what), want[what]);
        }
    }

    private static void isCost(Facingleaf x, int chapter, int want) {
        due.is("cost(" + chapter + ")", x.cost(chapter), want);
        if (x.rows(chapter) <= 8) {
            due.is("costByAll(" + chapter + ")", x.costByAll(chapter), want);
        }
    }

    private static Facingleaf composed(String... paragraphs) {
        Facingleaf x = Drafts.book(8, 8);
        for (String words : paragraphs) {
            Drafts.paragraph(x, 0, words);
        }
        due.is("compose", x.compose(false), 1);
        return x;
    }

    private static void kinds() {
        due.promise(23, "kindOf");
        Facingleaf x = Drafts.book(8, 8);
        x.head(0, 0, 1);
        Drafts.rows(x, 0, 3);
        x.head(2, 1, 1);
        Drafts.rows(x, 2, 9);
        Drafts.paragraph(x, 2, "8E0");
        x.compose(false);
        int[] kinds = {3, 3, 0, 4, 2, 2, 5};
        for (int p = 1; p <= 7; p++) {
            due.is("kindOf(" + p + ")", x.kindOf(p), kinds[p - 1]);
        }
        due.isThrown(Due.INDEX, "kindOf(0)", () -> x.kindOf(0));
        due.isThrown(Due.INDEX, "kindOf(8)", () -> x.kindOf(8));
        due.promise(22, "pages");
        due.is("pages()", x.pages(), 7);
        due.promise(24, "pageOf");
        due.is("pageOf(0, false)", x.pageOf(0, false), 3);
        due.is("pageOf(0, true)", x.pageOf(0, true), 3);
        due.is("pageOf(1, false)", x.pageOf(1, false), -1);
        due.is("pageOf(1, true)", x.pageOf(1, true), -1);
        due.is("pageOf(2, false)", x.pageOf(2, false), 5);
        due.is("pageOf(2, true)", x.pageOf(2, true), 6);
        due.isThrown(Due.INDEX, "pageOf(3, true)", () -> x.pageOf(3, true));
        due.isThrown(Due.INDEX, "pageOf(-1, true)", () -> x.pageOf(-1, true));
        due.promise(25, "pageOfRow");
        // head, blank, and 6 of 9 lines
        due.is("pageOfRow(2, 6)", x.pageOfRow(2, 6), 5);
        due.is("pageOfRow(2, 7)", x.pageOfRow(2, 7), 6);
        due.is("pageOfRow(2, 10)", x.pageOfRow(2, 10), 6);
        due.isThrown(Due.INDEX, "pageOfRow(2, 11)", () -> x.pageOfRow(2, 11));
        due.isThrown(Due.INDEX, "pageOfRow(2, -1)", () -> x.pageOfRow(2, -1));
        due.isThrown(Due.INDEX, "pageOfRow(1, 0)", () -> x.pageOfRow(1, 0));
        due.isThrown(Due.INDEX, "pageOfRow(3, 0)", () -> x.pageOfRow(3, 0));
    }

    private static void contents() {
        due.promise(22, "pages");
        for (int heads = 0; heads <= 17; heads++) {
            Facingleaf x = Drafts.book(8, 8);
            for (int h = 0; h < heads; h++) {
                x.head(h / 6, h % 2, 1);
                if (h % 3 == 2) {
                    Drafts.paragraph(x, h / 6, "8");
                }
            }
            x.compose(false);
            int want = heads == 0 ? 0 : heads <= 16 ? 2 : 4;
            int got = 0;
            for (int p = 1; p <= x.pages(); p++) {
                got += x.kindOf(p) == 3 ? 1 : 0;
            }
            due.is("pages of contents for " + heads + " heads", got, want);
            due.is("the first page", x.pageOf(0, false), heads == 0 ? -1 : want + 1);
        }
    }

    private static void notComposed() {
        Facingleaf x = new Facingleaf();
        due.promise(22, "pages");
        due.isThrown(Due.STATE, "pages()", x::pages);
        due.promise(23, "kindOf");
        due.isThrown(Due.STATE, "kindOf(999)", () -> x.kindOf(999));
        due.isThrown(Due.INDEX, "kindOf(0)", () -> x.kindOf(0));
        due.promise(24, "pageOf");
        due.isThrown(Due.STATE, "pageOf(0, true)", () -> x.pageOf(0, true));
        due.isThrown(Due.INDEX, "pageOf(3, true)", () -> x.pageOf(3, true));
        due.promise(25, "pageOfRow");
        due.isThrown(Due.STATE, "pageOfRow(0, 99)", () -> x.pageOfRow(0, 99));
        due.isThrown(Due.INDEX, "pageOfRow(0, -1)", () -> x.pageOfRow(0, -1));
        due.promise(26, "onPage");
        due.isThrown(Due.STATE, "onPage(1, 4)", () -> x.onPage(1, 4));
        due.isThrown(Due.ARGUMENT, "onPage(1, 5)", () -> x.onPage(1, 5));
        due.isThrown(Due.ARGUMENT, "onPage(1, -1)", () -> x.onPage(1, -1));
        due.isThrown(Due.INDEX, "onPage(0, 5)", () -> x.onPage(0, 5));
        due.promise(27, "cost");
        due.isThrown(Due.STATE, "cost(0)", () -> x.cost(0));
        due.isThrown(Due.INDEX, "cost(3)", () -> x.cost(3));
        due.promise(28, "costByAll");
        due.isThrown(Due.STATE, "costByAll(0)", () -> x.costByAll(0));
        due.isThrown(Due.INDEX, "costByAll(-1)", () -> x.costByAll(-1));
        x.compose(false);
        due.promise(26, "onPage");
        due.isThrown(Due.INDEX, "onPage(1, 0)", () -> x.onPage(1, 0));
        due.is("costByAll(2)", x.costByAll(2), 0);
    }

    private static void lacking() {
        due.promise(27, "cost");
        // 5 | 3, since 5, the blank and 3 are 9: it lacks 3, and there is no blank
        Facingleaf x = composed(Drafts.eights(5), Drafts.eights(3));
        isCost(x, 0, 9);
        isPage(x, 1, 5, 0, 0, 0, 5);
        isPage(x, 2, 3, 0, 0, 0, 3);
        // 3, blank, 3 lacks 1, by which the blank grows
        x = composed(Drafts.eights(3), Drafts.eights(3), Drafts.eights(7));
        isCost(x, 0, 1);
        isPage(x, 1, 6, 0, 0, 1, 8);
        isPage(x, 2, 7, 0, 0, 0, 7);
        // 2, blank, 3 lacks 2, of which the blank takes 1
        x = composed(Drafts.eights(2), Drafts.eights(3), Drafts.eights(7));
        isCost(x, 0, 1 + 1);
        isPage(x, 1, 5, 0, 0, 1, 7);
        // all on the very last page: nothing lacks, nothing grows
        x = composed(Drafts.eights(2), Drafts.eights(3));
        isCost(x, 0, 0);
        isPage(x, 1, 5, 0, 0, 0, 6);
    }

    private static void singleRows() {
        due.promise(27, "cost");
        // 8 | 1 would leave the last row alone: 15
        Facingleaf x = composed(Drafts.eights(9));
        isCost(x, 0, 1);
        isPage(x, 1, 7);
        // 7 and the first row of the next would be 6, blank and 1; 15 against 4
        x = composed(Drafts.eights(6), Drafts.eights(3));
        isCost(x, 0, 4);
        isPage(x, 1, 6);
        // 4 would lack 4; 4, blank, 3 of 4 would leave the last row alone; 4, blank, 2 lacks 1
        x = composed(Drafts.eights(4), Drafts.eights(4));
        isCost(x, 0, 1);
        isPage(x, 1, 6, 0, 0, 1, 8);
        // one of one row is neither the first nor the last one of two
        x = composed(Drafts.eights(6), "8", Drafts.eights(8));
        isCost(x, 0, 0);
        isPage(x, 1, 7, 0, 0, 0, 8);
    }

    private static void heads() {
        due.promise(26, "onPage");
        // 3, blank, head, blank, 2 of 4
        for (int need = 1; need <= 3; need++) {
            Facingleaf x = Drafts.book(8, 8);
            Drafts.rows(x, 0, 3);
            x.head(0, 0, need);
            Drafts.rows(x, 0, 4);
            x.compose(false);
            // the contents come first
            isPage(x, 3, need < 3 ? 6 : 3);
            isCost(x, 0, need < 3 ? 0 : 25);
        }
        // a head below is a row as well, and with the last row of the chapter none is needed
        Facingleaf x = Drafts.book(8, 8);
        Drafts.rows(x, 0, 4);
        x.head(0, 0, 1);
        x.head(0, 0, 3);
        x.compose(false);
        isPage(x, 3, 6, 0, 0, 0, 8);
        Drafts.paragraph(x, 0, "8");
        x.compose(false);
        isPage(x, 3, 4);
        isPage(x, 4, 3, 0, 0, 0, 5);
        isCost(x, 0, 16);
    }

    private static void floats() {
        due.promise(26, "onPage");
        // one row with three floats: two at the most; 3 x 3 lacks, 3 for the late one, 5 behind
        Facingleaf x = composed("2F2 2F2 2F2");
        isPage(x, 1, 1, 2, 0, 0, 5);
        isPage(x, 2, 0, 1, 0, 0, 2);
        isCost(x, 0, 9 + 3 + 5);
        due.is("pageOf(0, true)", x.pageOf(0, true), 2);
        // full with seven rows: three floats fit on a page without rows
        x = composed(Drafts.eights(6) + " 2F2 2F2 2F2");
        isPage(x, 1, 7, 0, 0, 0, 7);
        isPage(x, 2, 0, 3, 0, 0, 6);
        isCost(x, 0, 1 + 9 + 5);
        // the next one does not fit, and the one behind it does not go ahead of it
        x = composed("1F5 1F2 1F5 1F4");
        isPage(x, 1, 1, 2, 0, 0, 8);
        isPage(x, 2, 0, 1, 0, 0, 5);
        isPage(x, 3, 0, 1, 0, 0, 4);
        isCost(x, 0, 6 + 5 + 5);
        // two of the floats, of which the page takes one, so that a line of the note is on it
        x = composed("1F3 1F3 2N1");
        isPage(x, 1, 1, 1, 1, 0, 6);
        isPage(x, 2, 0, 1, 0, 0, 3);
        isCost(x, 0, 4 + 3 + 5);
    }

    private static void notes() {
        due.promise(26, "onPage");
        // row, row, the one above, four lines and one of four: three go over
        Facingleaf x = composed("7N4 7N4");
        isPage(x, 1, 2, 0, 5, 0, 8);
        isPage(x, 2, 0, 0, 3, 0, 4);
        isCost(x, 0, 3 * 2 + 5);
        // the first row of each paragraph alone would need too much room
        x = composed("7N4", "7N4");
        isPage(x, 1, 1, 0, 4, 0, 6);
        isPage(x, 2, 1, 0, 4, 0, 6);
        isCost(x, 0, 4);
        // the three that go over are on the next page, below its rows
        x = composed("7N4 7N4 8 8 8 8 8");
        isPage(x, 1, 2, 0, 5, 0, 8);
        isPage(x, 2, 3, 0, 3, 0, 7);
        isPage(x, 3, 2, 0, 0, 0, 2);
        isCost(x, 0, 6 + 1);
        // one row with two notes: of the second one two lines go over
        x = composed("2N4 2N4");
        isPage(x, 1, 1, 0, 6, 0, 8);
        isPage(x, 2, 0, 0, 2, 0, 3);
        isCost(x, 0, 2 * 2 + 5);
    }

    private static void facing() {
        due.promise(27, "cost");
        // 8, 7, 7 and 1: page 3 is filled as far as page 2
        Facingleaf x = composed(Drafts.eights(8), Drafts.eights(7), Drafts.eights(7), "8");
        isCost(x, 0, 1 + 1);
        // 7, 8, 7 and 1: page 3 is filled less far
        x = composed(Drafts.eights(7), Drafts.eights(8), Drafts.eights(7), "8");
        isCost(x, 0, 1 + 1 + 1);
        // the very last page is compared with none
        x = composed(Drafts.eights(8), Drafts.eights(8), "8");
        isCost(x, 0, 0);
        // nor is the first one of a chapter with the page ahead, which is of another
        x = Drafts.book(8, 8);
        Drafts.rows(x, 0, 8);
        Drafts.rows(x, 0, 2);
        Drafts.rows(x, 1, 7);
        Drafts.rows(x, 1, 2);
        x.compose(false);
        isCost(x, 0, 0);
        isCost(x, 1, 1);
        due.is("pageOf(1, false)", x.pageOf(1, false), 3);
        // a page with rows that others without rows follow is compared
        x = composed(Drafts.eights(8), Drafts.eights(8), "1F5 1F2 1F5 1F4");
        isPage(x, 3, 1, 2, 0, 0, 8);
        isCost(x, 0, 6 + 5 + 5);
        x = composed(Drafts.eights(8), Drafts.eights(8), "2F2 2F2 2F2");
        // 8 | 6 | 2, blank, 1 and two floats | one float
        isPage(x, 3, 3, 2, 0, 0, 8);
        isCost(x, 0, 4 + 2 + 3 + 5);
    }

    private static void equalCosts() {
        due.promise(26, "onPage");
        // 8 | 7 | 2 and 7 | 8 | 2 cost 1: the first page has more rows
        Facingleaf x = composed(Drafts.eights(17));
        isCost(x, 0, 1);
        isPage(x, 1, 8);
        isPage(x, 2, 7);
        isPage(x, 3, 2);
    }

    private static void costByAll() {
        due.promise(28, "costByAll");
        Facingleaf x = composed(Drafts.eights(8));
        due.is("of 8 rows", x.costByAll(0), 0);
        Facingleaf y = composed(Drafts.eights(9));
        due.isThrown(Due.STATE, "of 9 rows", () -> y.costByAll(0));
        due.isThrown(Due.INDEX, "what is named first", () -> y.costByAll(3));
        // what is kept of the printed book counts for cost(), and not here
        x = composed(Drafts.eights(5), Drafts.eights(3));
        x.print();
        Drafts.replace(x, 0, 1, "8 8");
        x.compose(true);
        due.is("cost(0)", x.cost(0), 9);
        due.is("costByAll(0)", x.costByAll(0), 0);
    }

    private static void otherPages() {
        due.promise(26, "onPage");
        Facingleaf x = Drafts.book(8, 8);
        x.head(0, 0, 1);
        Drafts.paragraph(x, 1, "8E0");
        x.compose(false);
        // contents, contents, chapter 0, blank, chapter 1, index
        int[] kinds = {3, 3, 0, 4, 1, 5};
        for (int p = 1; p <= 6; p++) {
            due.is("kindOf(" + p + ")", x.kindOf(p), kinds[p - 1]);
            for (int what = 0; what < 5; what++) {
                boolean isRow = kinds[p - 1] < 3 && (what == 0 || what == 4);
                due.is("onPage(" + p + ", " + what + ")", x.onPage(p, what), isRow ? 1 : 0);
            }
        }
        due.isThrown(Due.INDEX, "onPage(7, 0)", () -> x.onPage(7, 0));
        due.isThrown(Due.INDEX, "onPage(7, 9)", () -> x.onPage(7, 9));
        due.isThrown(Due.ARGUMENT, "onPage(6, 5)", () -> x.onPage(6, 5));
        due.isThrown(Due.ARGUMENT, "onPage(6, -1)", () -> x.onPage(6, -1));
    }

    public static void main(String[] args) {
        kinds();
        contents();
        notComposed();
        lacking();
        singleRows();
        heads();
        floats();
        notes();
        facing();
        equalCosts();
        costByAll();
        otherPages();
        due.end();
    }
}
