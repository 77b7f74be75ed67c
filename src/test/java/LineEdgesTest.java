/** The edges of "Lines", of the widths of words, and of the promises 16 to 21. */
public final class LineEdgesTest {

    private static final int LEAST = Integer.MIN_VALUE;
    private static final int MOST = Integer.MAX_VALUE;

    private static final Due due = new Due("LineEdgesTest");

    private LineEdgesTest() { }

    /** Compares how many words there are up to the end of each line, and the cost. */
    private static void isLines(Facingleaf x, int chapter, int item, int cost, int... ends) {
        due.is("lines(" + chapter + ", " + item + ")", x.lines(chapter, item), ends.length);
        for (int line = 0; line < ends.length; line++) {
            due.is("wordsTo(" + chapter + ", " + item + ", " + line + ")",
                x.wordsTo(chapter, item, line), ends[line]);
        }
        due.is("costOfLines(" + chapter + ", " + item + ")", x.costOfLines(chapter, item), cost);
    }

    private static Facingleaf broken(int width, String... paragraphs) {
        Facingleaf x = Drafts.book(width, 14);
        for (String words : paragraphs) {
            Drafts.paragraph(x, 0, words);
        }
        due.is("it is composed", x.compose(false) > 0, true);
        return x;
    }

    private static void blanksBetweenWords() {
        due.sentence("17", "a line is as long as its words and a blank between each two");
        Facingleaf x = broken(8, "4 3", "4 4", "2 2 2", "2 2 3", "1 1 1 2", "1 1 1 3");
        isLines(x, 0, 0, 0, 2);
        isLines(x, 0, 1, 16, 1, 2);
        isLines(x, 0, 2, 0, 3);
        isLines(x, 0, 3, 9, 2, 3);
        isLines(x, 0, 4, 0, 4);
        // 1 and 1 lack 5, 1 and 1 and 1 lack 3 alone
        isLines(x, 0, 5, 9, 3, 4);
    }

    private static void severalWords() {
        due.sentence("17", "A line with several words is not longer than the width.");
        // were it one line of 9, it would lack nothing: alone the 8 lacks nothing as well
        Facingleaf x = broken(8, "8 1", "1 8", "7 1", "6 1");
        isLines(x, 0, 0, 0, 1, 2);
        isLines(x, 0, 1, 49, 1, 2);
        isLines(x, 0, 2, 1, 1, 2);
        isLines(x, 0, 3, 0, 2);
    }

    private static void aLongWord() {
        due.sentence("19",
            "A line of one word that is longer costs 100 for each that it is longer by");
        Facingleaf x = Drafts.book(8, 14);
        Drafts.paragraph(x, 0, "1N1 1N1 1N1 1N1 1N1 1N1 1N1 1N1 1N1");
        Drafts.paragraph(x, 0, "8N1");
        Drafts.paragraph(x, 0, "7N1");
        Drafts.paragraph(x, 1, "7N1");
        Drafts.paragraph(x, 1, "8N1");
        Drafts.paragraph(x, 1, "5 8N1 5");
        Drafts.paragraph(x, 1, "8N1 1 1");
        x.compose(false);
        due.is("8 and two digits are longer by 2", x.costOfLines(0, 1), 200);
        due.is("7 and two digits are longer by 1", x.costOfLines(0, 2), 100);
        due.is("7 and a digit are not longer", x.costOfLines(1, 0), 0);
        due.is("8 and a digit, on the last line too", x.costOfLines(1, 1), 100);
        isLines(x, 1, 2, 9 + 100, 1, 2, 3);
        isLines(x, 1, 3, 100, 1, 3);
    }

    private static void aLineThatLacks() {
        due.sentence("19", "each other line costs what it lacks of the width, squared");
        Facingleaf x = broken(9, "8 1N1", "7 8", "1 8", "8 8 8 8", "5 3 5 3");
        isLines(x, 0, 0, 1, 1, 2);
        isLines(x, 0, 1, 4, 1, 2);
        isLines(x, 0, 2, 64, 1, 2);
        isLines(x, 0, 3, 3, 1, 2, 3, 4);
        isLines(x, 0, 4, 0, 2, 4);
    }

    private static void theLastLine() {
        due.sentence("19", "but the last one nothing");
        Facingleaf x = broken(30, "1", "8 8 8 3 1", "8");
        isLines(x, 0, 0, 0, 1);
        isLines(x, 0, 1, 0, 4, 5);
        isLines(x, 0, 2, 0, 1);
    }

    private static void theLeastCost() {
        due.sentence("17, 18", "Of all ways the one with the least cost is taken");
        // as many words as there is room for would be 3 3, 1 and 8: 1 + 49; 3, 3 1 and 8: 25 + 9
        Facingleaf x = broken(8, "3 3 1 8");
        isLines(x, 0, 0, 34, 1, 3, 4);
    }

    private static void theFewestLines() {
        due.sentence("17, 18", "of several that with the fewest lines");
        // 7 3, 3 7, 1 3: 36 in four lines; 7, 3 3, 7 1, 3 7: 16 + 16 + 4 in five
        Facingleaf x = broken(11, "7 3 3 7 1 3 7 3");
        isLines(x, 0, 0, 36, 2, 4, 6, 8);
    }

    private static void theFirstLine() {
        due.sentence("17, 18", "of several the one whose first line has more words");
        // 3 3, 3 and 6: 1 + 25; 3, 3 3 and 6: 25 + 1
        Facingleaf x = broken(8, "3 3 3 6");
        isLines(x, 0, 0, 26, 2, 3, 4);
    }

    private static void theSecondLine() {
        due.sentence("17, 18", "of several the second one, and so on");
        // the same behind a line, and behind two, that no other words can be on
        Facingleaf x = broken(8, "8 3 3 3 6", "8 8 3 3 3 6");
        isLines(x, 0, 0, 26, 1, 3, 4, 5);
        isLines(x, 0, 1, 26, 1, 2, 4, 5, 6);
    }

    private static void rowsOfAChapter() {
        due.sentence("20", "A chapter has rows: one for each head, and one for each line");
        Facingleaf x = Drafts.book(8, 14);
        x.compose(false);
        due.is("of none", x.rows(0), 0);
        x.head(1, 0, 1);
        for (int k = 0; k < 3; k++) {
            x.head(2, 0, 1);
            Drafts.rows(x, 2, 20);
        }
        for (int k = 0; k < 4; k++) {
            x.head(2, 1, 1);
        }
        Drafts.paragraph(x, 0, "8 8 4 3");
        due.is("it is composed", x.compose(false), 1);
        due.is("three lines", x.rows(0), 3);
        due.is("a head", x.rows(1), 1);
        due.is("the most: 60 words, and seven heads", x.rows(2), 67);
        due.is("its last row", x.pageOfRow(2, 66), x.pageOf(2, true));
    }

    private static void blanksAheadOfItems() {
        due.sentence("26", "Ahead of the first row of each item but the first one is a blank.");
        Facingleaf x = Drafts.book(8, 8);
        Drafts.rows(x, 0, 3);
        x.compose(false);
        due.is("none ahead of the first one, nor between lines", x.onPage(1, 4), 3);
        Drafts.rows(x, 0, 2);
        x.compose(false);
        due.is("one ahead of the second one", x.onPage(1, 4), 6);
        x.head(0, 0, 1);
        x.compose(false);
        due.is("one ahead of a head", x.onPage(3, 4), 8);
        x = Drafts.book(8, 8);
        x.head(0, 0, 1);
        Drafts.paragraph(x, 0, "8");
        x.compose(false);
        due.is("none ahead of a head that is the first one", x.onPage(3, 4), 3);
    }

    private static void lineOfAnItem() {
        due.sentence("18", "there is no such chapter, item or line");
        Facingleaf x = Drafts.book(8, 8);
        Drafts.paragraph(x, 1, "8 4 3 8");
        x.head(1, 0, 1);
        due.areThrown(Due.INDEX, "not composed, a line", k -> x.wordsTo(1, 0, k), -1, LEAST);
        due.areThrown(Due.STATE, "not composed, a line", k -> x.wordsTo(1, 0, k), 0, 3, MOST);
        due.areThrown(Due.STATE, "not composed, a head's", k -> x.wordsTo(1, 1, k), 0, 1, MOST);
        x.compose(false);
        due.areThrown(Due.INDEX, "a line", k -> x.wordsTo(1, 0, k), -1, 3, 4, LEAST, MOST);
        due.is("the first one", x.wordsTo(1, 0, 0), 1);
        due.is("the last one: all words", x.wordsTo(1, 0, 2), 4);
        due.areThrown(Due.INDEX, "a head's", k -> x.wordsTo(1, 1, k), -1, 1, LEAST, MOST);
        due.is("0 for a head", x.wordsTo(1, 1, 0), 0);
        due.areThrown(Due.INDEX, "an item", i -> x.wordsTo(1, i, 0), -1, 2, LEAST, MOST);
        due.areThrown(Due.INDEX, "a chapter", c -> x.wordsTo(c, 0, 0), -1, 0, 3, LEAST, MOST);
    }

    private static void twentyLines() {
        due.sentence("17, 18", "Returns how many lines an item has; 1 for a head.");
        Facingleaf x = Drafts.book(8, 8);
        Drafts.rows(x, 0, 20);
        x.head(0, 0, 1);
        Drafts.paragraph(x, 0, "8");
        due.areThrown(Due.STATE, "not composed, an item", i -> x.lines(0, i), 0, 1, 2);
        due.areThrown(Due.INDEX, "not composed, an item", i -> x.lines(0, i), -1, 3, LEAST, MOST);
        x.compose(false);
        due.is("the most", x.lines(0, 0), 20);
        due.is("words up to the end of the last one", x.wordsTo(0, 0, 19), 20);
        due.is("of a head", x.lines(0, 1), 1);
        due.is("the least", x.lines(0, 2), 1);
        due.areThrown(Due.INDEX, "an item", i -> x.lines(0, i), -1, 3, LEAST, MOST);
        due.areThrown(Due.INDEX, "a chapter", c -> x.lines(c, 0), -1, 1, 3, LEAST, MOST);
    }

    private static void costOfAHead() {
        due.sentence("19", "Returns the cost of the lines of an item; 0 for a head.");
        Facingleaf x = Drafts.book(9, 8);
        Drafts.paragraph(x, 0, "8 8");
        x.head(0, 0, 1);
        due.areThrown(Due.STATE, "not composed, an item", i -> x.costOfLines(0, i), 0, 1);
        due.areThrown(Due.INDEX, "not composed, an item", i -> x.costOfLines(0, i), -1, 2);
        x.compose(false);
        due.is("of a paragraph", x.costOfLines(0, 0), 1);
        due.is("of a head", x.costOfLines(0, 1), 0);
        due.areThrown(Due.INDEX, "an item", i -> x.costOfLines(0, i), -1, 2, LEAST, MOST);
        due.areThrown(Due.INDEX, "a chapter", c -> x.costOfLines(c, 0), -1, 1, 3, LEAST, MOST);
    }

    private static void rowsOfNoChapter() {
        due.sentence("20", "Returns how many rows a chapter has.");
        Facingleaf x = Drafts.book(8, 8);
        due.areThrown(Due.STATE, "not composed, a chapter", c -> x.rows(c), 0, 1, 2);
        due.areThrown(Due.INDEX, "not composed, a chapter", c -> x.rows(c), -1, 3, LEAST, MOST);
        x.compose(false);
        due.areThrown(Due.INDEX, "a chapter", c -> x.rows(c), -1, 3, LEAST, MOST);
        due.is("rows(2)", x.rows(2), 0);
    }

    private static void wordOfAnItem() {
        due.sentence("16", "there is no such chapter, item or word");
        Facingleaf x = Drafts.book(8, 8);
        Drafts.paragraph(x, 1, "3 4 5");
        x.head(1, 0, 1);
        due.areThrown(Due.STATE, "not composed, a word", w -> x.widthOf(1, 0, w), 0, 1, 2);
        due.areThrown(Due.INDEX, "not composed, a word", w -> x.widthOf(1, 0, w), -1, 3);
        x.compose(false);
        due.areThrown(Due.INDEX, "a word", w -> x.widthOf(1, 0, w), -1, 3, LEAST, MOST);
        due.is("the first one", x.widthOf(1, 0, 0), 3);
        due.is("the last one", x.widthOf(1, 0, 2), 5);
        due.areThrown(Due.INDEX, "a head's", w -> x.widthOf(1, 1, w), -1, 0, 1);
        due.areThrown(Due.INDEX, "an item", i -> x.widthOf(1, i, 0), -1, 2, LEAST, MOST);
        due.areThrown(Due.INDEX, "a chapter", c -> x.widthOf(c, 0, 0), -1, 0, 3, LEAST, MOST);
    }

    private static void widthOfAWordThatWasReplaced() {
        due.sentence("16", "as the last round took it, with the digits of its number");
        Facingleaf x = Drafts.book(30, 8);
        Drafts.paragraph(x, 0, "R1 3N1 3L1");
        x.compose(false);
        due.is("a reference, and one with a note",
            10 * x.widthOf(0, 0, 0) + x.widthOf(0, 0, 1), 54);
        Drafts.replace(x, 0, 0, "3 3 R1");
        x.compose(false);
        due.is("neither of these", 10 * x.widthOf(0, 0, 0) + x.widthOf(0, 0, 1), 33);
        due.is("a reference without a label", x.widthOf(0, 0, 2), 2);
    }

    private static void digitsOfNumbers() {
        due.sentence("16, 31", "A word with a note is wider by the digits of its number.");
        Facingleaf x = Drafts.book(30, 14);
        Drafts.paragraph(x, 1, "1N1 1N1 1N1 1N1 1N1 1N1 1N1 1N1 8N1 8N1 1N1 8N1");
        x.compose(false);
        due.is("one digit at first", x.widthOf(1, 0, 0), 2);
        due.is("the ninth one has one digit", x.widthOf(1, 0, 8), 9);
        due.is("the tenth one has two", x.widthOf(1, 0, 9), 10);
        due.is("the twelfth one as well", x.widthOf(1, 0, 11), 10);
        due.is("noteOf(1, 0, 11)", x.noteOf(1, 0, 11), 12);
    }

    private static void widthOfATextNone() {
        due.sentence("16, 30", "A reference is as wide as its text: 2 if no word has the label");
        Facingleaf x = Drafts.book(8, 8);
        Drafts.paragraph(x, 0, "1L8 R9");
        x.compose(false);
        due.is("widthOf(0, 0, 1)", x.widthOf(0, 0, 1), 2);
        Drafts.paragraph(x, 0, "1L9");
        x.compose(false);
        due.is("and if one has it", x.widthOf(0, 0, 1), 5);
        Drafts.replace(x, 0, 1, "1");
        x.compose(false);
        due.is("and if none has it any more", x.widthOf(0, 0, 1), 2);
    }

    private static void widthOfATextHere() {
        due.sentence("16, 30", "5 (above, or below) if the label is on the same page");
        Facingleaf x = Drafts.book(8, 8);
        Drafts.paragraph(x, 0, "8L1 8 8 8 8 8 8 R1");
        x.compose(false);
        due.is("the first and the last row", x.widthOf(0, 0, 7), 5);
        Drafts.replace(x, 0, 0, "R1 8 8 8 8 8 8 8L1");
        x.compose(false);
        due.is("the last and the first row", x.widthOf(0, 0, 0), 5);
    }

    private static void widthOfATextOverleaf() {
        due.sentence("16, 30",
            "8 (overleaf) if it is on the next page, and the reference on an odd one");
        Facingleaf x = Drafts.book(8, 8);
        // pages of eight rows
        Drafts.paragraph(x, 0, "8 8 8 8 8 8 8 R2");
        Drafts.paragraph(x, 0, "8L2 8 8 8 8 8 8 R3");
        Drafts.paragraph(x, 0, "8L3 8 8 8 8 8 8 R2");
        x.compose(false);
        due.is("page 2 from page 1", x.widthOf(0, 0, 7), 8);
        due.is("page 3 from page 2, an even one: page 3", x.widthOf(0, 1, 7), 6);
        due.is("page 2 from page 3, the one ahead: page 2", x.widthOf(0, 2, 7), 6);
    }

    private static void widthOfATextPage() {
        due.sentence("16, 30",
            "otherwise (page, a blank, its number) 5 and the digits of the page");
        Facingleaf x = Drafts.book(8, 8);
        // eight rows each: the pages 1 to 4, 5 to 8, 9 and 10
        for (int k = 0; k < 8; k++) {
            Drafts.paragraph(x, k / 4, k == 0 ? "R1 R2 R3 8 8 8 8 8" : k == 2
                ? "8L3 8 8 8 8 8 8 8" : Drafts.eights(8));
        }
        Drafts.paragraph(x, 2, "8 8 8 8 8 8 8 8L1");
        Drafts.paragraph(x, 2, "8L2 8");
        x.compose(false);
        due.is("page 9", 10 * x.textOf(0, 0, 0) + x.widthOf(0, 0, 0), 196);
        due.is("page 10", 10 * x.textOf(0, 0, 1) + x.widthOf(0, 0, 1), 207);
        due.is("page 3, two further on", 10 * x.textOf(0, 0, 2) + x.widthOf(0, 0, 2), 136);
    }

    private static void neverBroken() {
        due.sentence("21", "A paragraph is broken anew in a round if it was never broken");
        Facingleaf x = Drafts.book(8, 8);
        due.isThrown(Due.STATE, "broken()", x::broken);
        x.compose(false);
        due.is("without paragraphs", x.broken(), 0);
        x.head(0, 0, 1);
        x.compose(false);
        due.is("a head is none", x.broken(), 0);
        Drafts.paragraph(x, 0, "8");
        due.isThrown(Due.STATE, "broken()", x::broken);
        x.compose(false);
        due.is("the first one", x.broken(), 1);
        x.compose(false);
        due.is("it was broken", x.broken(), 0);
        Drafts.paragraph(x, 2, "8");
        x.compose(false);
        due.is("the second one alone", x.broken(), 1);
        Drafts.replace(x, 2, 0, "8");
        x.compose(false);
        due.is("one that was replaced", x.broken(), 1);
    }

    private static void otherWidthOfLines() {
        due.sentence("21", "or if the width of lines");
        Facingleaf x = Drafts.book(8, 8);
        Drafts.paragraph(x, 0, "8");
        Drafts.paragraph(x, 1, "8");
        x.compose(false);
        x.setMeasures(8, 14);
        x.compose(false);
        due.is("the depth is none", x.broken(), 0);
        x.setMeasures(9, 14);
        x.compose(false);
        due.is("both, though their lines are the same", x.broken(), 2);
        x.setMeasures(8, 14);
        x.setMeasures(9, 14);
        x.compose(false);
        due.is("when it was broken last it was the same", x.broken(), 0);
        x.setMeasures(8, 14);
        x.compose(false);
        due.is("when it was broken last it was 9", x.broken(), 2);
    }

    private static void otherWidthOfAWord() {
        due.sentence("21", "or that of a word of it, was another one when it was broken last");
        Facingleaf x = Drafts.book(30, 8);
        Drafts.paragraph(x, 0, "1 1 R1");
        Drafts.paragraph(x, 0, "1 1 1");
        x.compose(false);
        due.is("at first", x.broken(), 2);
        Drafts.replace(x, 0, 1, "1 1 1L1");
        due.is("rounds", x.compose(false), 2);
        due.is("the one with the label, and in the second round that with the reference",
            x.broken(), 2);
        due.is("rounds", x.compose(false), 2);
        due.is("2 wide in the first round, 5 wide in the second", x.broken(), 2);
        Drafts.replace(x, 0, 1, "1");
        x.compose(false);
        due.is("2 wide, and one that was replaced", x.broken(), 2);
    }

    public static void main(String[] args) {
        blanksBetweenWords();
        severalWords();
        aLongWord();
        aLineThatLacks();
        theLastLine();
        theLeastCost();
        theFewestLines();
        theFirstLine();
        theSecondLine();
        rowsOfAChapter();
        blanksAheadOfItems();
        lineOfAnItem();
        twentyLines();
        costOfAHead();
        rowsOfNoChapter();
        wordOfAnItem();
        widthOfAWordThatWasReplaced();
        digitsOfNumbers();
        widthOfATextNone();
        widthOfATextHere();
        widthOfATextOverleaf();
        widthOfATextPage();
        neverBroken();
        otherWidthOfLines();
        otherWidthOfAWord();
        due.end();
    }
}
