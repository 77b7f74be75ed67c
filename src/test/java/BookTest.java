/** Promises 1 to 10 and 13 to 15: the book, its draft, and what there is. */
public final class BookTest {

    private static final Due due = new Due("BookTest");

    private BookTest() { }

    private static void newObject() {
        due.promise(1, "a new object");
        Facingleaf x = new Facingleaf();
        for (int c = 0; c < 3; c++) {
            due.is("items", x.items(c), 0);
        }
        due.is("isComposed()", x.isComposed(), false);
        due.is("the draft is empty", x.clear(), 0);
        due.isThrown(Due.STATE, "nothing was printed", () -> x.compose(true));
        due.is("notes by chapters", x.setByPage(false), false);
        for (int t = 0; t < 10; t++) {
            due.is("nothing to see also", x.seeAlso(t, -1), -1);
        }
        due.is("compose", x.compose(false), 1);
        due.is("pages of an empty book", x.pages(), 0);
        due.is("untouched()", x.untouched(), 0);
        // the width 16 takes 8, 7 and a blank; the depth 10 takes ten rows
        Drafts.paragraph(x, 0, "8 7");
        Drafts.rows(x, 1, 10);
        Drafts.rows(x, 2, 11);
        x.compose(false);
        due.is("a line of 16", x.lines(0, 0), 1);
        due.is("no line of 17", x.lines(1, 0), 10);
        due.is("a page of ten rows", x.pageOf(1, true), 3);
        due.is("none of eleven", x.pageOf(2, true), 6);
        due.is("the width", x.setMeasures(8, 8), 16);
    }

    private static void measures() {
        due.promise(2, "setMeasures");
        Facingleaf x = new Facingleaf();
        Drafts.rows(x, 0, 8);
        x.compose(false);
        int[][] wrong = {{7, 8}, {31, 8}, {8, 7}, {8, 15}, {-1, 10}, {0, 0},
            {Integer.MAX_VALUE, 10}, {16, Integer.MIN_VALUE}};
        for (int[] pair : wrong) {
            due.isThrown(Due.ARGUMENT, "setMeasures(" + pair[0] + ", " + pair[1] + ")",
                () -> x.setMeasures(pair[0], pair[1]));
        }
        due.is("it stays composed", x.isComposed(), true);
        due.is("setMeasures(8, 8)", x.setMeasures(8, 8), 16);
        due.is("it is not composed then", x.isComposed(), false);
        x.compose(false);
        due.is("eight rows on a page", x.pages(), 1);
        due.is("setMeasures(30, 14)", x.setMeasures(30, 14), 8);
        x.compose(false);
        due.is("8 8 8 in a line", x.lines(0, 0), 3);
        due.is("the same measures", x.setMeasures(30, 14), 30);
        due.is("also the same ones end the composing", x.isComposed(), false);
    }

    private static void byPage() {
        due.promise(3, "setByPage");
        Facingleaf x = Drafts.book(8, 8);
        Drafts.paragraph(x, 0, "7N1 8 8 8 8 8 7N1 8");
        x.compose(false);
        due.is("setByPage(false)", x.setByPage(false), false);
        due.is("also the same ends the composing", x.isComposed(), false);
        x.compose(false);
        // six rows and the two lines of a note with the row above: 6 | 2
        due.is("the first page", x.onPage(1, 0), 6);
        due.is("by chapters", x.noteOf(0, 0, 6), 2);
        due.is("setByPage(true)", x.setByPage(true), false);
        due.is("isComposed()", x.isComposed(), false);
        x.compose(false);
        due.is("by pages", x.noteOf(0, 0, 6), 1);
        due.is("setByPage(false) again", x.setByPage(false), true);
    }

    private static void word() {
        due.promise(4, "word");
        Facingleaf x = new Facingleaf();
        x.compose(false);
        int[][] right = {{1, 0, 0}, {8, 0, 0}, {1, 1, 0}, {8, 1, 9}, {1, 2, 1}, {8, 2, 4},
            {1, 3, 2}, {8, 3, 5}, {1, 4, 0}, {8, 4, 9}, {1, 5, 1}, {8, 5, 3}};
        int[][] wrong = {{0, 0, 0}, {9, 0, 0}, {-1, 0, 0}, {1, -1, 0}, {1, 6, 0}, {1, 0, 1},
            {1, 0, -1}, {1, 1, -1}, {1, 1, 10}, {1, 2, 0}, {1, 2, 5}, {1, 3, 1}, {1, 3, 6},
            {1, 4, -1}, {1, 4, 10}, {1, 5, 0}, {1, 5, 4}, {0, 9, 99}};
        for (int k = 0; k < right.length; k++) {
            int[] one = right[k];
            due.is("word(" + one[0] + ", " + one[1] + ", " + one[2] + ")",
                x.word(one[0], one[1], one[2]), k + 1);
        }
        for (int k = right.length; k < 20; k++) {
            due.is("word(1, 0, 0)", x.word(1, 0, 0), k + 1);
            for (int[] one : wrong) {
                due.isThrown(Due.ARGUMENT, "word(" + one[0] + ", " + one[1] + ", " + one[2] + ")",
                    () -> x.word(one[0], one[1], one[2]));
            }
        }
        due.isThrown(Due.STATE, "the draft has 20", () -> x.word(1, 0, 0));
        due.isThrown(Due.ARGUMENT, "what is named first", () -> x.word(9, 0, 0));
        due.is("the draft is none of the book", x.isComposed(), true);
        due.is("clear()", x.clear(), 20);
    }

    private static void refer() {
        due.promise(5, "refer");
        Facingleaf x = new Facingleaf();
        x.compose(false);
        due.isThrown(Due.ARGUMENT, "refer(-1)", () -> x.refer(-1));
        due.isThrown(Due.ARGUMENT, "refer(10)", () -> x.refer(10));
        for (int k = 1; k <= 20; k++) {
            due.is("refer", x.refer(k % 10), k);
        }
        due.isThrown(Due.STATE, "the draft has 20", () -> x.refer(0));
        due.isThrown(Due.ARGUMENT, "what is named first", () -> x.refer(10));
        due.is("the draft is none of the book", x.isComposed(), true);
        due.is("paragraph(0)", x.paragraph(0), 0);
        due.is("words(0, 0)", x.words(0, 0), 20);
        x.compose(false);
        due.is("it is a reference", x.textOf(0, 0, 19), 0);
    }

    private static void clear() {
        due.promise(6, "clear");
        Facingleaf x = new Facingleaf();
        x.compose(false);
        due.is("of an empty draft", x.clear(), 0);
        Drafts.put(x, "1 2L0 3 R0");
        due.is("clear()", x.clear(), 4);
        due.is("clear() again", x.clear(), 0);
        due.is("isComposed()", x.isComposed(), true);
        due.is("it begins anew", x.word(1, 1, 0), 1);
        x.paragraph(0);
        due.is("paragraphs empty it", x.clear(), 0);
    }

    private static void paragraph() {
        due.promise(7, "paragraph");
        Facingleaf x = new Facingleaf();
        due.isThrown(Due.INDEX, "paragraph(-1)", () -> x.paragraph(-1));
        due.isThrown(Due.INDEX, "paragraph(3)", () -> x.paragraph(3));
        due.isThrown(Due.STATE, "an empty draft", () -> x.paragraph(0));
        for (int i = 0; i < 10; i++) {
            due.is("paragraph(0)", Drafts.paragraph(x, 0, "3 3L" + i), i);
            due.is("items(0)", x.items(0), i + 1);
        }
        Drafts.put(x, "3");
        due.isThrown(Due.STATE, "ten items", () -> x.paragraph(0));
        due.isThrown(Due.INDEX, "what is named first", () -> x.paragraph(3));
        x.compose(false);
        due.is("the draft stays", x.word(3, 1, 4), 2);
        due.isThrown(Due.STATE, "a label of the book", () -> x.paragraph(1));
        due.is("what throws changes nothing", x.isComposed(), true);
        due.is("nor the draft", x.clear(), 2);
        due.is("nor the chapter", x.items(1), 0);
        Drafts.paragraph(x, 1, "3");
        due.is("it is not composed then", x.isComposed(), false);
    }

    private static void paragraphLimits() {
        Facingleaf x = new Facingleaf();
        Drafts.put(x, "3L1 3 3L1");
        due.isThrown(Due.STATE, "a label twice in the draft", () -> x.paragraph(0));
        x.clear();
        for (int k = 0; k < 3; k++) {
            Drafts.rows(x, 0, k < 2 ? 20 : 19);
        }
        Drafts.put(x, "3 3");
        due.isThrown(Due.STATE, "61 words", () -> x.paragraph(0));
        x.clear();
        due.is("60 words", Drafts.paragraph(x, 0, "3"), 3);
        x.head(0, 0, 1);
        Drafts.put(x, "3");
        due.isThrown(Due.STATE, "61 words behind a head", () -> x.paragraph(0));
        due.is("of another chapter they are none", x.paragraph(1), 0);
        Drafts.paragraph(x, 1, "1N4 1N4");
        Drafts.put(x, "1N3 1N2");
        due.isThrown(Due.STATE, "13 lines of notes", () -> x.paragraph(1));
        x.clear();
        due.is("12 lines of notes", Drafts.paragraph(x, 1, "1N3 1N1"), 2);
        due.is("4 floats", Drafts.paragraph(x, 1, "1F2 1F5 1F2 1F2"), 3);
        Drafts.put(x, "1F2");
        due.isThrown(Due.STATE, "5 floats", () -> x.paragraph(1));
        due.is("of another chapter it is the first one", x.paragraph(2), 0);
    }

    private static void head() {
        due.promise(8, "head");
        Facingleaf x = new Facingleaf();
        x.compose(false);
        due.isThrown(Due.INDEX, "head(3, 0, 1)", () -> x.head(3, 0, 1));
        due.isThrown(Due.INDEX, "head(-1, 5, 5)", () -> x.head(-1, 5, 5));
        int[][] wrong = {{-1, 1}, {2, 1}, {0, 0}, {0, 4}, {1, -1}};
        for (int[] one : wrong) {
            due.isThrown(Due.ARGUMENT, "head(0, " + one[0] + ", " + one[1] + ")",
                () -> x.head(0, one[0], one[1]));
        }
        due.is("isComposed()", x.isComposed(), true);
        x.word(4, 0, 0);
        for (int i = 0; i < 10; i++) {
            due.is("head", x.head(0, i % 2, 1 + i % 3), i);
        }
        due.is("isComposed()", x.isComposed(), false);
        due.isThrown(Due.STATE, "ten items", () -> x.head(0, 0, 1));
        due.isThrown(Due.ARGUMENT, "what is named first", () -> x.head(0, 2, 1));
        due.is("the draft stays", x.clear(), 1);
        due.is("in another chapter", x.head(2, 1, 3), 0);
    }

    private static void replace() {
        due.promise(9, "replace");
        Facingleaf x = new Facingleaf();
        Drafts.paragraph(x, 0, "3L1 3 3");
        x.head(0, 0, 1);
        Drafts.paragraph(x, 1, "3L2");
        x.compose(false);
        due.isThrown(Due.INDEX, "replace(3, 0)", () -> x.replace(3, 0));
        due.isThrown(Due.INDEX, "replace(0, 2)", () -> x.replace(0, 2));
        due.isThrown(Due.INDEX, "replace(0, -1)", () -> x.replace(0, -1));
        due.isThrown(Due.STATE, "an empty draft", () -> x.replace(0, 0));
        Drafts.put(x, "5L1 5");
        due.isThrown(Due.STATE, "a head", () -> x.replace(0, 1));
        due.isThrown(Due.STATE, "a label that is elsewhere", () -> x.replace(1, 0));
        due.is("isComposed()", x.isComposed(), true);
        due.is("its own label", x.replace(0, 0), 3);
        due.is("isComposed()", x.isComposed(), false);
        due.is("words(0, 0)", x.words(0, 0), 2);
        due.is("the draft is empty then", x.clear(), 0);
        due.is("items(0)", x.items(0), 2);
        Drafts.put(x, "5L3 5L3");
        due.isThrown(Due.STATE, "a label twice in the draft", () -> x.replace(0, 0));
        due.is("the draft stays", x.clear(), 2);
        due.is("a label goes", Drafts.replace(x, 0, 0, "4"), 2);
        due.is("and can come elsewhere", Drafts.replace(x, 1, 0, "4L1"), 1);
        due.is("so can the other one", Drafts.paragraph(x, 2, "4L2"), 0);
    }

    private static void replaceLimits() {
        Facingleaf x = new Facingleaf();
        for (int k = 0; k < 4; k++) {
            Drafts.rows(x, 0, k < 3 ? 19 : 3);
        }
        Drafts.put(x, "3 3 3 3");
        due.isThrown(Due.STATE, "61 words", () -> x.replace(0, 3));
        x.clear();
        due.is("60 words", Drafts.replace(x, 0, 3, "3 3 3"), 3);
        Drafts.paragraph(x, 1, "1N4 1N4 1N2 1F2");
        Drafts.paragraph(x, 1, "1N2 1F2 1F3 1F2");
        Drafts.put(x, "1N3");
        due.isThrown(Due.STATE, "13 lines of notes", () -> x.replace(1, 1));
        x.clear();
        Drafts.put(x, "1N2 1F2 1F2");
        due.isThrown(Due.STATE, "5 floats", () -> x.replace(1, 0));
        x.clear();
        due.is("its own do not count", Drafts.replace(x, 1, 0, "1N4 1N4 1N2 1F5"), 4);
    }

    private static void seeAlso() {
        due.promise(10, "seeAlso");
        Facingleaf x = new Facingleaf();
        x.compose(false);
        due.isThrown(Due.INDEX, "seeAlso(-1, 0)", () -> x.seeAlso(-1, 0));
        due.isThrown(Due.INDEX, "seeAlso(10, 10)", () -> x.seeAlso(10, 10));
        due.isThrown(Due.ARGUMENT, "seeAlso(0, 10)", () -> x.seeAlso(0, 10));
        due.isThrown(Due.ARGUMENT, "seeAlso(0, -2)", () -> x.seeAlso(0, -2));
        due.isThrown(Due.ARGUMENT, "the same", () -> x.seeAlso(4, 4));
        due.is("isComposed()", x.isComposed(), true);
        due.is("seeAlso(0, 9)", x.seeAlso(0, 9), -1);
        due.is("isComposed()", x.isComposed(), false);
        due.is("seeAlso(0, 1)", x.seeAlso(0, 1), 9);
        due.is("seeAlso(9, 0)", x.seeAlso(9, 0), -1);
        due.is("seeAlso(0, -1)", x.seeAlso(0, -1), 1);
        x.compose(false);
        due.is("seeAlso(0, -1) again", x.seeAlso(0, -1), -1);
        due.is("also the same ends the composing", x.isComposed(), false);
    }

    private static void isComposed() {
        due.promise(13, "isComposed");
        Facingleaf x = Drafts.book(30, 8);
        due.is("at first", x.isComposed(), false);
        x.compose(false);
        due.is("composed", x.isComposed(), true);
        x.print();
        due.is("printed", x.isComposed(), true);
        Drafts.put(x, "1N4 1N4 1N4");
        due.is("with a draft", x.isComposed(), true);
        x.paragraph(0);
        due.is("with a paragraph more", x.isComposed(), false);
        due.is("it cannot be composed", x.compose(false), -1);
        due.is("then it is not", x.isComposed(), false);
        Drafts.replace(x, 0, 0, "1N4 1N4");
        x.compose(true);
        due.is("composed again", x.isComposed(), true);
    }

    private static void items() {
        due.promise(14, "items");
        Facingleaf x = new Facingleaf();
        x.head(1, 0, 1);
        Drafts.paragraph(x, 1, "3 3");
        due.is("items(0)", x.items(0), 0);
        due.is("items(1)", x.items(1), 2);
        due.isThrown(Due.INDEX, "items(-1)", () -> x.items(-1));
        due.isThrown(Due.INDEX, "items(3)", () -> x.items(3));
        due.promise(15, "words");
        due.is("of a head", x.words(1, 0), 0);
        due.is("of a paragraph", x.words(1, 1), 2);
        due.isThrown(Due.INDEX, "words(1, 2)", () -> x.words(1, 2));
        due.isThrown(Due.INDEX, "words(1, -1)", () -> x.words(1, -1));
        due.isThrown(Due.INDEX, "words(0, 0)", () -> x.words(0, 0));
        due.isThrown(Due.INDEX, "words(3, 0)", () -> x.words(3, 0));
        due.isThrown(Due.INDEX, "words(-1, 0)", () -> x.words(-1, 0));
    }

    public static void main(String[] args) {
        newObject();
        measures();
        byPage();
        word();
        refer();
        clear();
        paragraph();
        paragraphLimits();
        head();
        replace();
        replaceLimits();
        seeAlso();
        isComposed();
        items();
        due.end();
    }
}
