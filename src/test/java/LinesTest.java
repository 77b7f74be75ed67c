/** Promises 16 to 21: lines and rows. */
public final class LinesTest {

    private static final Due due = new Due("LinesTest");

    private LinesTest() { }

    private static void isLines(Facingleaf x, int chapter, int item, int cost, int... ends) {
        due.is("lines(" + chapter + ", " + item + ")", x.lines(chapter, item), ends.length);
        for (int line = 0; line < ends.length; line++) {
            due.is("wordsTo(" + chapter + ", " + item + ", " + line + ")",
                x.wordsTo(chapter, item, line), ends[line]);
        }
        due.is("costOfLines(" + chapter + ", " + item + ")", x.costOfLines(chapter, item), cost);
    }

    private static void widthOf() {
        due.promise(16, "widthOf");
        Facingleaf x = Drafts.book(30, 8);
        Drafts.paragraph(x, 0, "8 1L3 R3 R4 2F2 2E2 2M2 3N1");
        x.head(0, 0, 1);
        Drafts.paragraph(x, 1, "3N1 3N1 3N1 3N1 3N1 3N1 3N1 3N1 3N1 3N1 R3");
        due.isThrown(Due.STATE, "not composed", () -> x.widthOf(0, 0, 0));
        due.isThrown(Due.INDEX, "what is named first", () -> x.widthOf(0, 0, 8));
        x.setMeasures(30, 14);
        x.compose(false);
        int[] wide = {8, 1, 5, 2, 2, 2, 2, 4};
        for (int w = 0; w < wide.length; w++) {
            due.is("widthOf(0, 0, " + w + ")", x.widthOf(0, 0, w), wide[w]);
        }
        due.is("the ninth note", x.widthOf(1, 0, 8), 4);
        due.is("the tenth note", x.widthOf(1, 0, 9), 5);
        due.is("page 3, the digit", x.textOf(1, 0, 10), 13);
        due.is("as wide as its text", x.widthOf(1, 0, 10), 6);
        due.isThrown(Due.INDEX, "widthOf(0, 0, 8)", () -> x.widthOf(0, 0, 8));
        due.isThrown(Due.INDEX, "widthOf(0, 0, -1)", () -> x.widthOf(0, 0, -1));
        due.isThrown(Due.INDEX, "a head", () -> x.widthOf(0, 1, 0));
        due.isThrown(Due.INDEX, "widthOf(0, 2, 0)", () -> x.widthOf(0, 2, 0));
        due.isThrown(Due.INDEX, "widthOf(0, -1, 0)", () -> x.widthOf(0, -1, 0));
        due.isThrown(Due.INDEX, "widthOf(3, 0, 0)", () -> x.widthOf(3, 0, 0));
    }

    private static void breaking() {
        due.promise(17, "lines");
        Facingleaf x = Drafts.book(10, 14);
        Drafts.paragraph(x, 0, "5 4 5 4 5");
        // the last line costs nothing, so that the first words need not be spread
        Drafts.paragraph(x, 0, "3 3 3 3 3 3 3");
        // 1 + 36 either way: the first line takes more words
        Drafts.paragraph(x, 0, "4 4 4 8");
        // alone on a line, a word that ends the paragraph costs nothing
        Drafts.paragraph(x, 0, "8 1");
        Drafts.paragraph(x, 0, "8 2");
        x.head(0, 1, 1);
        x.compose(false);
        isLines(x, 0, 0, 0, 2, 4, 5);
        isLines(x, 0, 1, 27, 2, 4, 6, 7);
        isLines(x, 0, 2, 37, 2, 3, 4);
        isLines(x, 0, 3, 0, 2);
        isLines(x, 0, 4, 4, 1, 2);
        isLines(x, 0, 5, 0, 0);
        // 16 + 16 + 4 in five lines, 36 in four: fewer lines
        x.setMeasures(11, 14);
        Drafts.paragraph(x, 1, "7 3 3 7 1 3 7 3");
        x.compose(false);
        isLines(x, 1, 0, 36, 2, 4, 6, 8);
    }

    private static void tooLong() {
        due.promise(19, "costOfLines");
        Facingleaf x = Drafts.book(8, 8);
        Drafts.paragraph(x, 0, "8N1");
        Drafts.paragraph(x, 0, "1 8N1 1 8N1");
        // 7 + 1 + 1 is 9: the note's digit parts the words
        Drafts.paragraph(x, 0, "1 6N1");
        Drafts.paragraph(x, 0, "7 1N1");
        x.compose(false);
        due.is("one longer, also on the last line", x.costOfLines(0, 0), 100);
        isLines(x, 0, 1, 49 + 100 + 49 + 100, 1, 2, 3, 4);
        due.is("1 and 6 and a digit", x.lines(0, 2), 2);
        due.is("7 and 1 and a digit", x.lines(0, 3), 2);
        due.is("7 lacks 1", x.costOfLines(0, 3), 1);
    }

    private static void wrong() {
        Facingleaf x = new Facingleaf();
        Drafts.paragraph(x, 0, "8 8 8");
        x.head(0, 0, 1);
        due.promise(17, "lines");
        due.isThrown(Due.STATE, "lines(0, 0)", () -> x.lines(0, 0));
        due.isThrown(Due.INDEX, "lines(0, 2)", () -> x.lines(0, 2));
        due.promise(18, "wordsTo");
        due.isThrown(Due.STATE, "wordsTo(0, 0, 99)", () -> x.wordsTo(0, 0, 99));
        due.isThrown(Due.INDEX, "wordsTo(0, 0, -1)", () -> x.wordsTo(0, 0, -1));
        due.isThrown(Due.INDEX, "wordsTo(0, 2, 0)", () -> x.wordsTo(0, 2, 0));
        due.promise(19, "costOfLines");
        due.isThrown(Due.STATE, "costOfLines(0, 0)", () -> x.costOfLines(0, 0));
        due.isThrown(Due.INDEX, "costOfLines(0, 2)", () -> x.costOfLines(0, 2));
        due.promise(20, "rows");
        due.isThrown(Due.STATE, "rows(0)", () -> x.rows(0));
        due.isThrown(Due.INDEX, "rows(3)", () -> x.rows(3));
        due.promise(21, "broken");
        due.isThrown(Due.STATE, "broken()", x::broken);
        x.compose(false);
        due.promise(17, "lines");
        due.is("of a head", x.lines(0, 1), 1);
        due.isThrown(Due.INDEX, "lines(0, -1)", () -> x.lines(0, -1));
        due.isThrown(Due.INDEX, "lines(-1, 0)", () -> x.lines(-1, 0));
        due.promise(18, "wordsTo");
        due.is("of a head", x.wordsTo(0, 1, 0), 0);
        due.isThrown(Due.INDEX, "wordsTo(0, 1, 1)", () -> x.wordsTo(0, 1, 1));
        due.isThrown(Due.INDEX, "wordsTo(0, 0, 3)", () -> x.wordsTo(0, 0, 3));
        due.isThrown(Due.INDEX, "wordsTo(0, 0, -1)", () -> x.wordsTo(0, 0, -1));
        due.isThrown(Due.INDEX, "wordsTo(3, 0, 0)", () -> x.wordsTo(3, 0, 0));
        due.promise(19, "costOfLines");
        due.is("of a head", x.costOfLines(0, 1), 0);
        due.isThrown(Due.INDEX, "costOfLines(1, 0)", () -> x.costOfLines(1, 0));
        due.promise(20, "rows");
        due.is("rows(0)", x.rows(0), 4);
        due.is("rows(1)", x.rows(1), 0);
        due.isThrown(Due.INDEX, "rows(-1)", () -> x.rows(-1));
    }

    private static void broken() {
        due.promise(21, "broken");
        Facingleaf x = Drafts.book(16, 10);
        Drafts.paragraph(x, 0, "8 8 8");
        Drafts.paragraph(x, 0, "3L0 R0");
        x.head(0, 0, 1);
        Drafts.paragraph(x, 1, "8 8");
        due.is("two rounds", x.compose(false), 2);
        due.is("three in the first, one in the second", x.broken(), 4);
        due.is("nothing has changed but the reference", x.compose(false), 2);
        due.is("2 wide again, and then 5", x.broken(), 2);
        x.setMeasures(16, 14);
        x.compose(false);
        due.is("the depth breaks nothing", x.broken(), 2);
        x.setMeasures(17, 14);
        x.compose(false);
        due.is("the width breaks all", x.broken(), 4);
        Drafts.replace(x, 1, 0, "8 8");
        x.compose(false);
        due.is("one that was replaced was never broken", x.broken(), 3);
        x.setMeasures(16, 14);
        x.setMeasures(17, 14);
        x.compose(false);
        due.is("the width is as it was when they were broken", x.broken(), 2);
    }

    private static void brokenInVain() {
        Facingleaf x = Drafts.book(30, 8);
        Drafts.paragraph(x, 0, "8 8");
        Drafts.paragraph(x, 0, "1N4 1N4 1N4");
        due.is("it cannot be composed", x.compose(false), -1);
        x.setMeasures(30, 14);
        due.is("compose", x.compose(false), 1);
        due.is("both were broken by that width before", x.broken(), 0);
    }

    private static void brokenByNumbers() {
        Facingleaf x = Drafts.book(30, 14);
        Drafts.paragraph(x, 0, "1N1 1N1 1N1 1N1 1N1 1N1 1N1 1N1 1N1");
        Drafts.paragraph(x, 0, "1N1");
        due.is("by chapters all is known at once", x.compose(false), 1);
        due.is("broken()", x.broken(), 2);
        x.setByPage(true);
        // first one digit each, but the tenth note is on the same page
        due.is("by pages", x.compose(false), 2);
        due.is("the tenth one has one digit, and then two", x.broken(), 2);
        due.is("widthOf(0, 1, 0)", x.widthOf(0, 1, 0), 3);
        due.is("noteOf(0, 1, 0)", x.noteOf(0, 1, 0), 10);
    }

    public static void main(String[] args) {
        widthOf();
        breaking();
        tooLong();
        wrong();
        broken();
        brokenInVain();
        brokenByNumbers();
        due.end();
    }
}
