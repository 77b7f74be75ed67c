/** The edges of "The book", and of the promises 1 to 10 and 13 to 15 that stand on it. */
public final class BookEdgesTest {

    private static final int LEAST = Integer.MIN_VALUE;
    private static final int MOST = Integer.MAX_VALUE;
    private static final String TWELVE = "1N4 1N4 1N4";
    private static final String FOUR_FLOATS = "1F2 1F3 1F4 1F5";

    private static final Due due = new Due("BookEdgesTest");

    private BookEdgesTest() { }

    private static void newObject() {
        due.sentence("1", "An empty book, an empty draft, nothing printed.");
        Facingleaf x = new Facingleaf();
        due.is("clear()", x.clear(), 0);
        for (int c = 0; c < 3; c++) {
            due.is("items(" + c + ")", x.items(c), 0);
        }
        due.isThrown(Due.STATE, "compose(true)", () -> x.compose(true));
        due.is("isComposed()", x.isComposed(), false);
        due.is("an empty book can be composed", x.compose(false), 1);
        due.is("untouched()", x.untouched(), 0);
        due.is("pages()", x.pages(), 0);
        due.is("sheets()", x.sheets(), 0);
        due.is("indexLines()", x.indexLines(), 0);
        due.is("broken()", x.broken(), 0);
        due.is("print()", x.print(), 0);
        due.is("an empty book can be printed, and kept", x.compose(true), 1);
        due.is("setByPage(true)", x.setByPage(true), false);
        due.is("seeAlso(0, -1)", x.seeAlso(0, -1), -1);
    }

    private static void widthOfLines() {
        due.sentence("1, 2", "The width of lines is 8 to 30, 16 at first");
        Facingleaf x = new Facingleaf();
        due.areThrown(Due.ARGUMENT, "the width", w -> x.setMeasures(w, 10),
            7, 31, 0, -8, -1, LEAST, MOST);
        due.is("what throws sets nothing", x.setMeasures(16, 10), 16);
        // 16, and 17
        Drafts.paragraph(x, 0, "8 7");
        Drafts.paragraph(x, 0, "8 8");
        x.compose(false);
        due.is("16 in a line of 16", x.lines(0, 0), 1);
        due.is("17 are too many", x.lines(0, 1), 2);
        due.is("the least", x.setMeasures(8, 10), 16);
        Drafts.paragraph(x, 1, "6 1");
        Drafts.paragraph(x, 1, "7 1");
        x.compose(false);
        due.is("8 in a line of 8", x.lines(1, 0), 1);
        due.is("9 are too many", x.lines(1, 1), 2);
        due.is("the most", x.setMeasures(30, 10), 8);
        Drafts.paragraph(x, 2, "8 8 8 3");
        Drafts.paragraph(x, 2, "8 8 8 4");
        x.compose(false);
        due.is("30 in a line of 30", x.lines(2, 0), 1);
        due.is("31 are too many", x.lines(2, 1), 2);
        due.is("the width before", x.setMeasures(16, 10), 30);
    }

    private static void depthOfPages() {
        due.sentence("1, 2", "the depth of pages 8 to 14 rows, 10 at first");
        Facingleaf x = new Facingleaf();
        due.areThrown(Due.ARGUMENT, "the depth", d -> x.setMeasures(16, d),
            7, 15, 0, -8, -1, LEAST, MOST);
        Drafts.rows(x, 0, 10);
        Drafts.rows(x, 1, 11);
        isDeep(x, 1, 2);
        x.setMeasures(16, 8);
        Drafts.replace(x, 0, 0, Drafts.eights(8));
        Drafts.replace(x, 1, 0, Drafts.eights(9));
        isDeep(x, 1, 2);
        due.isThrown(Due.ARGUMENT, "setMeasures(30, 15)", () -> x.setMeasures(30, 15));
        isDeep(x, 1, 2);
        x.setMeasures(16, 14);
        Drafts.replace(x, 0, 0, Drafts.eights(14));
        Drafts.replace(x, 1, 0, Drafts.eights(15));
        isDeep(x, 1, 2);
    }

    private static void isDeep(Facingleaf x, int first, int second) {
        x.compose(false);
        due.is("pages of chapter 0", 1 + x.pageOf(0, true) - x.pageOf(0, false), first);
        due.is("pages of chapter 1", 1 + x.pageOf(1, true) - x.pageOf(1, false), second);
    }

    private static void chapters() {
        due.sentence("7, 8, 9, 14", "There are the chapters 0, 1 and 2");
        Facingleaf x = new Facingleaf();
        x.word(1, 0, 0);
        due.areThrown(Due.INDEX, "paragraph", c -> x.paragraph(c), -1, 3, LEAST, MOST);
        due.areThrown(Due.INDEX, "head", c -> x.head(c, 0, 1), -1, 3, LEAST, MOST);
        due.areThrown(Due.INDEX, "items", c -> x.items(c), -1, 3, LEAST, MOST);
        for (int c = 0; c < 3; c++) {
            due.is("head", x.head(c, 0, 1), 0);
            due.is("paragraph", Drafts.paragraph(x, c, "1"), 1);
            due.is("items", x.items(c), 2);
        }
        due.areThrown(Due.INDEX, "replace", c -> x.replace(c, 1), -1, 3, LEAST, MOST);
        due.areThrown(Due.INDEX, "words", c -> x.words(c, 1), -1, 3, LEAST, MOST);
        for (int c = 0; c < 3; c++) {
            due.is("replace", Drafts.replace(x, c, 1, "1 1"), c == 0 ? 2 : 1);
            due.is("words", x.words(c, 1), 2);
        }
    }

    private static void itemsOfAChapter() {
        due.sentence("7, 8, 14", "with at most 10 items each, numbered from 0 on");
        Facingleaf x = new Facingleaf();
        due.is("none", x.items(1), 0);
        for (int i = 0; i < 10; i++) {
            due.is("its item", i % 2 == 0 ? Drafts.paragraph(x, 1, "1") : x.head(1, 0, 1), i);
            due.is("items(1)", x.items(1), i + 1);
        }
        x.word(1, 0, 0);
        due.isThrown(Due.STATE, "an eleventh paragraph", () -> x.paragraph(1));
        due.isThrown(Due.STATE, "an eleventh head", () -> x.head(1, 0, 1));
        due.is("items(1)", x.items(1), 10);
        due.is("of another chapter it is the first one", x.paragraph(2), 0);
        due.is("one of ten can be replaced", Drafts.replace(x, 1, 8, "1 1 1"), 1);
        due.is("items(1)", x.items(1), 10);
        due.is("words(1, 8)", x.words(1, 8), 3);
        due.is("words(1, 9)", x.words(1, 9), 0);
        x.word(1, 0, 0);
        due.areThrown(Due.INDEX, "words", i -> x.words(1, i), -1, 10, LEAST, MOST);
        due.areThrown(Due.INDEX, "replace", i -> x.replace(1, i), -1, 10, LEAST, MOST);
        due.areThrown(Due.INDEX, "replace in an empty chapter", i -> x.replace(0, i), 0);
    }

    private static void widthOfAWord() {
        due.sentence("4, 16", "A word has a width, 1 to 8");
        Facingleaf x = new Facingleaf();
        due.areThrown(Due.ARGUMENT, "word", w -> x.word(w, 0, 0), 0, 9, -1, -8, LEAST, MOST);
        for (int w = 1; w <= 8; w++) {
            due.is("word", x.word(w, 0, 0), w);
        }
        x.paragraph(0);
        x.compose(false);
        for (int w = 1; w <= 8; w++) {
            due.is("widthOf", x.widthOf(0, 0, w - 1), w);
        }
    }

    private static void kindOfAWord() {
        due.sentence("4",
            "0 nothing with it, 1 a label, 2 a note, 3 a float, 4 an entry, 5 a margin");
        Facingleaf x = new Facingleaf();
        for (int value = 0; value <= 3; value++) {
            int number = value;
            due.areThrown(Due.ARGUMENT, "the kind, with the value " + value,
                k -> x.word(1, k, number), -1, 6, 7, LEAST, MOST);
        }
        due.areThrown(Due.ARGUMENT, "nothing with it, and the value", v -> x.word(1, 0, v),
            1, -1, LEAST, MOST);
        due.is("nothing with it", x.word(1, 0, 0), 1);
    }

    private static void labels() {
        due.sentence("4", "a label, 0 to 9, which no other word of the book may have");
        Facingleaf x = new Facingleaf();
        due.areThrown(Due.ARGUMENT, "the label", v -> x.word(1, 1, v), -1, 10, LEAST, MOST);
        due.is("the least", x.word(1, 1, 0), 1);
        due.is("the most", x.word(1, 1, 9), 2);
        due.is("paragraph(0)", x.paragraph(0), 0);
        due.is("the other eight", Drafts.paragraph(x, 2, "1L1 1L2 1L3 1L4 1L5 1L6 1L7 1L8"), 0);
        for (int label = 0; label <= 9; label++) {
            for (int c = 0; c < 3; c++) {
                int chapter = c;
                x.word(1, 1, label);
                due.isThrown(Due.STATE, label + " in " + c, () -> x.paragraph(chapter));
                x.clear();
            }
        }
        due.is("a reference has none", Drafts.paragraph(x, 1, "R0 R9"), 0);
    }

    private static void labelTwiceInADraft() {
        due.sentence("7, 9", "a label of the draft is in the book, or twice in the draft");
        Facingleaf x = new Facingleaf();
        Drafts.paragraph(x, 0, "1");
        Drafts.put(x, "1L9 1 1 1 1 1 1 1 1 1 1 1 1 1 1 1 1 1 1 1L9");
        due.isThrown(Due.STATE, "the first word and the twentieth", () -> x.paragraph(0));
        due.isThrown(Due.STATE, "the same, to replace", () -> x.replace(0, 0));
        x.clear();
        Drafts.put(x, "1L0 1L0");
        due.isThrown(Due.STATE, "one word and the next", () -> x.paragraph(1));
        x.clear();
        due.is("another label", Drafts.paragraph(x, 1, "1L0 1L1"), 0);
    }

    private static void labelElsewhere() {
        due.sentence("9", "a label of the draft is elsewhere in the book");
        Facingleaf x = new Facingleaf();
        Drafts.paragraph(x, 0, "1L1");
        Drafts.paragraph(x, 0, "1L2");
        Drafts.paragraph(x, 2, "1L3");
        for (String words : new String[] {"1L2", "1 1L3", "1L1 1L2"}) {
            Drafts.put(x, words);
            due.isThrown(Due.STATE, words, () -> x.replace(0, 0));
            x.clear();
        }
        due.is("its own label is not elsewhere", Drafts.replace(x, 0, 0, "1 1 1L1"), 1);
        due.is("a label that is no more can be elsewhere", Drafts.replace(x, 0, 0, "1L4"), 3);
        due.is("replace(2, 0)", Drafts.replace(x, 2, 0, "1L1"), 1);
        Drafts.put(x, "1L4");
        due.isThrown(Due.STATE, "one that has come", () -> x.replace(2, 0));
    }

    private static void linesOfANote() {
        due.sentence("4", "a note of 1 to 4 lines");
        Facingleaf x = new Facingleaf();
        due.areThrown(Due.ARGUMENT, "the lines", v -> x.word(1, 2, v), 0, 5, -1, LEAST, MOST);
        for (int lines = 1; lines <= 4; lines++) {
            x.word(1, 2, lines);
            x.paragraph(lines % 2);
        }
        x.compose(false);
        // one row, a blank, one row, the one above the notes, and their lines
        due.is("lines of 2 and 4", x.onPage(x.pageOf(0, false), 2), 6);
        due.is("lines of 1 and 3", x.onPage(x.pageOf(1, false), 2), 4);
    }

    private static void linesOfNotesOfAChapter() {
        due.sentence("7", "a chapter has at most 12 lines of notes");
        Facingleaf x = new Facingleaf();
        Drafts.put(x, TWELVE + " 1N1");
        due.isThrown(Due.STATE, "13 in one draft", () -> x.paragraph(0));
        due.is("clear()", x.clear(), 4);
        due.is("12 in one draft", Drafts.paragraph(x, 0, TWELVE), 0);
        x.word(1, 2, 1);
        due.isThrown(Due.STATE, "one more", () -> x.paragraph(0));
        due.is("another chapter has its own", x.paragraph(1), 0);
        Drafts.put(x, "1N4 1N4 1N4");
        due.isThrown(Due.STATE, "1 and 12", () -> x.paragraph(1));
        x.clear();
        due.is("1 and 11", Drafts.paragraph(x, 1, "1N4 1N4 1N3"), 1);
        due.is("twelve notes of a line", Drafts.paragraph(x, 2,
            "1N1 1N1 1N1 1N1 1N1 1N1 1N1 1N1 1N1 1N1 1N1 1N1"), 0);
        due.is("without a note", Drafts.paragraph(x, 2, "1"), 1);
    }

    private static void linesOfNotesReplaced() {
        due.sentence("9", "the chapter would have too many words, lines of notes or floats");
        Facingleaf x = new Facingleaf();
        Drafts.paragraph(x, 0, "1N4 1N4");
        Drafts.paragraph(x, 0, "1N4");
        Drafts.put(x, "1N4 1N1");
        due.isThrown(Due.STATE, "8 and 5", () -> x.replace(0, 1));
        x.clear();
        due.is("its own are gone: 8 and 4", Drafts.replace(x, 0, 1, "1N3 1N1"), 1);
        Drafts.put(x, "1N4 1N4 1N1");
        due.isThrown(Due.STATE, "9 and 4", () -> x.replace(0, 0));
        x.clear();
        due.is("11 of 12", Drafts.replace(x, 0, 0, "1N4 1N3"), 2);
        due.is("the twelfth", Drafts.paragraph(x, 0, "1N1"), 2);
    }

    private static void rowsOfAFloat() {
        due.sentence("4", "a float, 2 to 5 rows high");
        Facingleaf x = new Facingleaf();
        due.areThrown(Due.ARGUMENT, "the rows", v -> x.word(1, 3, v), 1, 6, 0, -2, LEAST, MOST);
        for (int high = 2; high <= 5; high++) {
            x.word(1, 3, high);
            due.is("its item", x.paragraph(0), high - 2);
            Facingleaf y = new Facingleaf();
            y.word(1, 3, high);
            y.paragraph(1);
            y.compose(false);
            due.is("a row and the float", y.onPage(1, 4), 1 + high);
        }
    }

    private static void floatsOfAChapter() {
        due.sentence("7", "a chapter has at most 4 floats");
        Facingleaf x = new Facingleaf();
        Drafts.put(x, FOUR_FLOATS + " 1F2");
        due.isThrown(Due.STATE, "five in one draft", () -> x.paragraph(0));
        due.is("clear()", x.clear(), 5);
        due.is("four in one draft", Drafts.paragraph(x, 0, FOUR_FLOATS), 0);
        x.word(1, 3, 2);
        due.isThrown(Due.STATE, "one more", () -> x.paragraph(0));
        due.is("another chapter has its own", x.paragraph(1), 0);
        Drafts.put(x, FOUR_FLOATS);
        due.isThrown(Due.STATE, "one and four", () -> x.paragraph(1));
        x.clear();
        due.is("one and three", Drafts.paragraph(x, 1, "1F5 1F5 1F5"), 1);
        due.is("without a float", Drafts.paragraph(x, 1, "1"), 2);
    }

    private static void floatsReplaced() {
        due.sentence("9", "the chapter would have too many words, lines of notes or floats");
        Facingleaf x = new Facingleaf();
        Drafts.paragraph(x, 0, "1F5 1F5");
        Drafts.paragraph(x, 0, "1F5 1F5");
        Drafts.put(x, "1F2 1F2 1F2");
        due.isThrown(Due.STATE, "two and three", () -> x.replace(0, 1));
        x.clear();
        due.is("its own are gone: two and two", Drafts.replace(x, 0, 1, "1F2 1F2"), 2);
        due.is("two and one", Drafts.replace(x, 0, 1, "1F2"), 2);
        due.is("three and one", Drafts.replace(x, 0, 0, "1F2 1F2 1F2"), 2);
    }

    private static void terms() {
        due.sentence("4", "an entry of a term, 0 to 9");
        Facingleaf x = new Facingleaf();
        due.areThrown(Due.ARGUMENT, "the term", v -> x.word(1, 4, v), -1, 10, LEAST, MOST);
        for (int term = 0; term <= 9; term++) {
            due.is("word(1, 4, " + term + ")", x.word(1, 4, term), 2 * term + 1);
            due.is("a term can have many", x.word(1, 4, term), 2 * term + 2);
        }
        x.paragraph(0);
        x.compose(false);
        for (int term = 0; term <= 9; term++) {
            due.is("ranges", x.ranges(term), 1);
        }
    }

    private static void rowsOfAMargin() {
        due.sentence("4", "a margin, 1 to 3 rows high");
        Facingleaf x = new Facingleaf();
        due.areThrown(Due.ARGUMENT, "the rows", v -> x.word(1, 5, v), 0, 4, -1, LEAST, MOST);
        Drafts.paragraph(x, 0, "1M1 1M2 1M3 1M1");
        x.compose(false);
        int[] places = {100, 101, 103, 106};
        for (int w = 0; w < 4; w++) {
            due.is("marginOf", x.marginOf(0, 0, w), places[w]);
        }
    }

    private static void labelsOfReferences() {
        due.sentence("5", "A word can also be a reference to a label.");
        Facingleaf x = new Facingleaf();
        due.areThrown(Due.ARGUMENT, "refer", v -> x.refer(v), -1, 10, LEAST, MOST);
        for (int label = 0; label <= 9; label++) {
            due.is("refer(" + label + ")", x.refer(label), 2 * label + 1);
            due.is("many can refer to one", x.refer(label), 2 * label + 2);
        }
    }

    private static void wordsOfAParagraph() {
        due.sentence("4, 5, 7, 15", "A paragraph has 1 to 20 words");
        Facingleaf x = new Facingleaf();
        due.isThrown(Due.STATE, "of an empty draft", () -> x.paragraph(0));
        due.is("of one word", Drafts.paragraph(x, 0, "1"), 0);
        due.is("words(0, 0)", x.words(0, 0), 1);
        due.isThrown(Due.STATE, "replaced by an empty draft", () -> x.replace(0, 0));
        Drafts.put(x, Drafts.eights(19));
        due.is("the twentieth", x.refer(0), 20);
        due.isThrown(Due.STATE, "a word more", () -> x.word(1, 0, 0));
        due.isThrown(Due.STATE, "a reference more", () -> x.refer(0));
        due.is("of twenty words", x.paragraph(0), 1);
        due.is("words(0, 1)", x.words(0, 1), 20);
        due.is("the draft is empty then", x.word(1, 0, 0), 1);
    }

    private static void wordsOfAChapter() {
        due.sentence("7", "a chapter at most 60");
        Facingleaf x = new Facingleaf();
        for (int k = 0; k < 3; k++) {
            Drafts.rows(x, 1, k < 2 ? 20 : 19);
        }
        Drafts.put(x, "1 1");
        due.isThrown(Due.STATE, "61", () -> x.paragraph(1));
        due.is("clear()", x.clear(), 2);
        due.is("60", Drafts.paragraph(x, 1, "1"), 3);
        x.word(1, 0, 0);
        due.isThrown(Due.STATE, "60 and one", () -> x.paragraph(1));
        due.is("a head has none", x.head(1, 0, 1), 4);
        due.isThrown(Due.STATE, "behind a head", () -> x.paragraph(1));
        due.is("another chapter has its own", x.paragraph(0), 0);
    }

    private static void wordsReplaced() {
        due.sentence("9", "the chapter would have too many words, lines of notes or floats");
        Facingleaf x = new Facingleaf();
        for (int k = 0; k < 3; k++) {
            Drafts.rows(x, 2, k < 2 ? 20 : 18);
        }
        Drafts.rows(x, 2, 2);
        Drafts.put(x, "1 1 1");
        due.isThrown(Due.STATE, "58 and three", () -> x.replace(2, 3));
        x.clear();
        due.is("its own are gone: 58 and two", Drafts.replace(x, 2, 3, "1 1"), 2);
        Drafts.put(x, Drafts.eights(19));
        due.isThrown(Due.STATE, "42 and 19", () -> x.replace(2, 2));
        x.word(1, 0, 0);
        due.is("40 and 20 in place of 20", x.replace(2, 1), 20);
        due.is("one in place of 18", Drafts.replace(x, 2, 2, "1"), 18);
    }

    private static void levelOfAHead() {
        due.sentence("8", "A head has a level, 0 or 1");
        Facingleaf x = new Facingleaf();
        due.areThrown(Due.ARGUMENT, "the level", v -> x.head(0, v, 1), -1, 2, LEAST, MOST);
        due.is("head(0, 0, 1)", x.head(0, 0, 1), 0);
        due.is("head(0, 1, 1)", x.head(0, 1, 1), 1);
    }

    private static void needOfAHead() {
        due.sentence("8", "needs 1 to 3 rows below it");
        Facingleaf x = new Facingleaf();
        due.areThrown(Due.ARGUMENT, "the need", v -> x.head(0, 0, v), 0, 4, -1, LEAST, MOST);
        for (int need = 1; need <= 3; need++) {
            due.is("head(0, 0, " + need + ")", x.head(0, 0, need), need - 1);
        }
    }

    private static void replaceAHead() {
        due.sentence("9", "if it is a head");
        Facingleaf x = new Facingleaf();
        x.head(0, 0, 1);
        Drafts.paragraph(x, 0, "1 1");
        x.word(1, 0, 0);
        due.isThrown(Due.STATE, "replace(0, 0)", () -> x.replace(0, 0));
        due.is("replace(0, 1)", x.replace(0, 1), 2);
        due.is("words of a head", x.words(0, 0), 0);
    }

    private static void emptyDraft() {
        due.sentence("6", "Empties the draft.");
        Facingleaf x = new Facingleaf();
        due.is("of none", x.clear(), 0);
        x.word(1, 0, 0);
        due.is("of one", x.clear(), 1);
        Drafts.put(x, Drafts.eights(20));
        due.is("of twenty", x.clear(), 20);
        due.is("of none again", x.clear(), 0);
        due.isThrown(Due.STATE, "paragraph(0)", () -> x.paragraph(0));
        due.is("there is room again", x.word(1, 0, 0), 1);
    }

    private static void draftStaysWithWhatIsRefused() {
        due.sentence("7, 9", "the draft, which is empty then");
        Facingleaf x = new Facingleaf();
        Drafts.put(x, "1L1 1L1");
        due.isThrown(Due.STATE, "paragraph(0)", () -> x.paragraph(0));
        due.isThrown(Due.INDEX, "paragraph(3)", () -> x.paragraph(3));
        due.isThrown(Due.INDEX, "replace(0, 0)", () -> x.replace(0, 0));
        due.is("it stays", x.clear(), 2);
        Drafts.paragraph(x, 0, "1 1 1");
        due.is("a paragraph empties it", x.clear(), 0);
        Drafts.replace(x, 0, 0, "1 1");
        due.is("a replacing empties it", x.clear(), 0);
        x.word(1, 0, 0);
        x.head(0, 0, 1);
        due.is("a head leaves it", x.clear(), 1);
    }

    private static void byPage() {
        due.sentence("3", "Returns whether it was so.");
        Facingleaf x = new Facingleaf();
        due.is("at first", x.setByPage(true), false);
        due.is("then", x.setByPage(true), true);
        due.is("again", x.setByPage(false), true);
        due.is("at last", x.setByPage(false), false);
    }

    private static void termToSeeAlso() {
        due.sentence("10", "another one; -1 for none");
        Facingleaf x = new Facingleaf();
        due.areThrown(Due.INDEX, "the term", t -> x.seeAlso(t, 5), -1, 10, LEAST, MOST);
        due.areThrown(Due.ARGUMENT, "the other", t -> x.seeAlso(5, t), -2, 10, LEAST, MOST);
        for (int term = 0; term <= 9; term++) {
            int same = term;
            due.isThrown(Due.ARGUMENT, "the same", () -> x.seeAlso(same, same));
            due.is("none before", x.seeAlso(term, 9 - term), -1);
        }
        for (int term = 0; term <= 9; term++) {
            due.is("the one before", x.seeAlso(term, -1), 9 - term);
            due.is("none before", x.seeAlso(term, -1), -1);
        }
    }

    private static void wordsOfAHead() {
        due.sentence("15", "0 for a head");
        Facingleaf x = new Facingleaf();
        x.head(2, 0, 1);
        due.is("words(2, 0)", x.words(2, 0), 0);
        due.isThrown(Due.INDEX, "words(2, 1)", () -> x.words(2, 1));
    }

    public static void main(String[] args) {
        newObject();
        widthOfLines();
        depthOfPages();
        chapters();
        itemsOfAChapter();
        widthOfAWord();
        kindOfAWord();
        labels();
        labelTwiceInADraft();
        labelElsewhere();
        linesOfANote();
        linesOfNotesOfAChapter();
        linesOfNotesReplaced();
        rowsOfAFloat();
        floatsOfAChapter();
        floatsReplaced();
        terms();
        rowsOfAMargin();
        labelsOfReferences();
        wordsOfAParagraph();
        wordsOfAChapter();
        wordsReplaced();
        levelOfAHead();
        needOfAHead();
        replaceAHead();
        emptyDraft();
        draftStaysWithWhatIsRefused();
        byPage();
        termToSeeAlso();
        wordsOfAHead();
        due.end();
    }
}
