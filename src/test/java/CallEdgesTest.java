import java.util.function.Consumer;
import java.util.function.Function;

/**
 * What the document says of all calls: what is refused, in which order, and that it changes
 * nothing.
 */
public final class CallEdgesTest {

    private static final int LEAST = Integer.MIN_VALUE;
    private static final int MOST = Integer.MAX_VALUE;

    private static final Due due = new Due("CallEdgesTest");

    private CallEdgesTest() { }

    /** A printed book that was changed and composed again, with two words in the draft. */
    private static Facingleaf book() {
        Facingleaf x = Drafts.book(8, 8);
        x.head(0, 0, 1);
        Drafts.paragraph(x, 0, "3L1 R1 4N2 3E0");
        Drafts.paragraph(x, 1, "8M2 8F3 R2 8");
        x.seeAlso(3, 4);
        x.compose(false);
        x.print();
        Drafts.replace(x, 1, 0, "8 8M2 8F3 R1");
        x.compose(true);
        Drafts.put(x, "4 4L5");
        return x;
    }

    /** What a book is like that tells nothing else: the draft, the measures, what is set. */
    private static String hidden(Facingleaf x) {
        StringBuilder told = new StringBuilder();
        told.append(x.clear()).append(' ').append(x.setMeasures(16, 10)).append(' ');
        told.append(x.setByPage(false)).append(' ').append(x.seeAlso(3, -1)).append(' ');
        x.setMeasures(8, 8);
        told.append(Due.answer(() -> x.compose(true)));
        return told.toString();
    }

    /** Makes two books alike, asks one of them what it refuses, and compares them. */
    private static void changesNothing(String want, String call, Consumer<Facingleaf> ahead,
            Function<Facingleaf, Object> refused) {
        Facingleaf x = book();
        Facingleaf y = book();
        ahead.accept(x);
        ahead.accept(y);
        due.isThrown(want, call, () -> refused.apply(x));
        due.is("all that is told behind " + call, Told.all(x), Told.all(y));
        due.is("what is hidden behind " + call, hidden(x), hidden(y));
        due.is("all that is told at last behind " + call, Told.all(x), Told.all(y));
    }

    private static void nothing(Facingleaf x) {
        due.is("it is composed", x.isComposed(), true);
    }

    private static void refusedSetting() {
        due.sentence("2, 10, 11, 12", "A call that throws an exception changes nothing.");
        changesNothing(Due.ARGUMENT, "setMeasures(31, 9)", x -> nothing(x),
            x -> x.setMeasures(31, 9));
        changesNothing(Due.ARGUMENT, "setMeasures(9, 15)", x -> nothing(x),
            x -> x.setMeasures(9, 15));
        changesNothing(Due.ARGUMENT, "seeAlso(3, 3)", x -> nothing(x), x -> x.seeAlso(3, 3));
        changesNothing(Due.ARGUMENT, "seeAlso(3, 10)", x -> nothing(x), x -> x.seeAlso(3, 10));
        changesNothing(Due.INDEX, "seeAlso(10, 3)", x -> nothing(x), x -> x.seeAlso(10, 3));
        changesNothing(Due.STATE, "print()", x -> x.setByPage(true), x -> x.print());
        Facingleaf x = new Facingleaf();
        x.compose(false);
        due.isThrown(Due.STATE, "compose(true)", () -> x.compose(true));
        due.is("it stays composed", x.isComposed(), true);
    }

    private static void refusedWords() {
        due.sentence("4, 5", "A call that throws an exception changes nothing.");
        changesNothing(Due.ARGUMENT, "word(0, 0, 0)", x -> nothing(x), x -> x.word(0, 0, 0));
        changesNothing(Due.ARGUMENT, "word(1, 6, 0)", x -> nothing(x), x -> x.word(1, 6, 0));
        changesNothing(Due.ARGUMENT, "word(1, 1, 10)", x -> nothing(x), x -> x.word(1, 1, 10));
        changesNothing(Due.ARGUMENT, "refer(10)", x -> nothing(x), x -> x.refer(10));
        changesNothing(Due.STATE, "word(1, 0, 0)", x -> Drafts.put(x, Drafts.eights(18)),
            x -> x.word(1, 0, 0));
        changesNothing(Due.STATE, "refer(1)", x -> Drafts.put(x, Drafts.eights(18)),
            x -> x.refer(1));
    }

    private static void refusedItems() {
        due.sentence("7, 8", "A call that throws an exception changes nothing.");
        changesNothing(Due.INDEX, "paragraph(3)", x -> nothing(x), x -> x.paragraph(3));
        changesNothing(Due.STATE, "paragraph(0) of none", x -> x.clear(), x -> x.paragraph(0));
        changesNothing(Due.STATE, "paragraph(1) with a label of chapter 0",
            x -> x.word(1, 1, 1), x -> x.paragraph(1));
        changesNothing(Due.STATE, "paragraph(1) with a label twice",
            x -> x.word(1, 1, 5), x -> x.paragraph(1));
        changesNothing(Due.STATE, "paragraph(0) with 13 lines of notes",
            x -> Drafts.put(x, "1N4 1N4 1N3"), x -> x.paragraph(0));
        changesNothing(Due.STATE, "paragraph(1) with five floats",
            x -> Drafts.put(x, "1F2 1F2 1F2 1F2"), x -> x.paragraph(1));
        changesNothing(Due.INDEX, "head(3, 0, 1)", x -> nothing(x), x -> x.head(3, 0, 1));
        changesNothing(Due.ARGUMENT, "head(0, 2, 1)", x -> nothing(x), x -> x.head(0, 2, 1));
        changesNothing(Due.ARGUMENT, "head(0, 0, 4)", x -> nothing(x), x -> x.head(0, 0, 4));
    }

    private static void refusedInAFullChapter() {
        due.sentence("7, 8", "if it has 10 items");
        Consumer<Facingleaf> fill = x -> {
            for (int k = 0; k < 10; k++) {
                x.head(2, 0, 1);
            }
        };
        changesNothing(Due.STATE, "paragraph(2)", fill, x -> x.paragraph(2));
        changesNothing(Due.STATE, "head(2, 0, 1)", fill, x -> x.head(2, 0, 1));
    }

    private static void refusedReplacing() {
        due.sentence("9", "A call that throws an exception changes nothing.");
        changesNothing(Due.INDEX, "replace(3, 0)", x -> nothing(x), x -> x.replace(3, 0));
        changesNothing(Due.INDEX, "replace(1, 1)", x -> nothing(x), x -> x.replace(1, 1));
        changesNothing(Due.STATE, "replace(0, 0), a head", x -> nothing(x), x -> x.replace(0, 0));
        changesNothing(Due.STATE, "replace(1, 0) by none", x -> x.clear(), x -> x.replace(1, 0));
        changesNothing(Due.STATE, "replace(1, 0) with a label of chapter 0",
            x -> x.word(1, 1, 1), x -> x.replace(1, 0));
        changesNothing(Due.STATE, "replace(0, 1) with a label twice",
            x -> x.word(1, 1, 5), x -> x.replace(0, 1));
        changesNothing(Due.STATE, "replace(0, 1) with 13 lines of notes",
            x -> Drafts.put(x, "1N4 1N4 1N4 1N1"), x -> x.replace(0, 1));
        changesNothing(Due.STATE, "replace(1, 0) with five floats",
            x -> Drafts.put(x, "1F2 1F2 1F2 1F2 1F2"), x -> x.replace(1, 0));
    }

    private static void refusedAsking() {
        due.sentence("15 to 39", "A call that throws an exception changes nothing.");
        changesNothing(Due.INDEX, "items(3)", x -> nothing(x), x -> x.items(3));
        changesNothing(Due.INDEX, "words(0, 2)", x -> nothing(x), x -> x.words(0, 2));
        changesNothing(Due.INDEX, "widthOf(0, 0, 0)", x -> nothing(x), x -> x.widthOf(0, 0, 0));
        changesNothing(Due.INDEX, "wordsTo(0, 0, 1)", x -> nothing(x), x -> x.wordsTo(0, 0, 1));
        changesNothing(Due.INDEX, "pageOfRow(0, 99)", x -> nothing(x), x -> x.pageOfRow(0, 99));
        changesNothing(Due.INDEX, "onPage(99, 0)", x -> nothing(x), x -> x.onPage(99, 0));
        changesNothing(Due.ARGUMENT, "onPage(1, 5)", x -> nothing(x), x -> x.onPage(1, 5));
        changesNothing(Due.STATE, "costByAll(1)", x -> {
            x.clear();
            Drafts.rows(x, 1, 9);
            x.compose(true);
        }, x -> x.costByAll(1));
        changesNothing(Due.INDEX, "range(10, 0, true)", x -> nothing(x),
            x -> x.range(10, 0, true));
        changesNothing(Due.ARGUMENT, "range(0, -1, true)", x -> nothing(x),
            x -> x.range(0, -1, true));
        changesNothing(Due.ARGUMENT, "indexLine(-1)", x -> nothing(x), x -> x.indexLine(-1));
        changesNothing(Due.STATE, "untouched()", x -> x.setByPage(false), x -> x.untouched());
    }

    private static void askingChangesNothing() {
        due.sentence("13 to 39", "what there is; nothing from here on changes anything");
        Facingleaf x = book();
        Facingleaf y = book();
        due.is("asked twice, all is told likewise", Told.all(x), Told.all(x));
        due.is("what is hidden, of one that was not asked", hidden(x), hidden(y));
        due.is("all that is told at last", Told.all(x), Told.all(y));
    }

    private static void firstOfIndexAndState() {
        due.sentence("7 to 9", "the one that is named first in the throws clause is thrown");
        Facingleaf x = new Facingleaf();
        due.isThrown(Due.INDEX, "no chapter, an empty draft", () -> x.paragraph(3));
        due.isThrown(Due.INDEX, "no chapter, no level, no need", () -> x.head(-1, 2, 4));
        due.isThrown(Due.INDEX, "no chapter, an empty draft", () -> x.replace(-1, 0));
        due.isThrown(Due.INDEX, "no item, an empty draft", () -> x.replace(0, 0));
        for (int k = 0; k < 10; k++) {
            x.head(0, 0, 1);
        }
        due.isThrown(Due.ARGUMENT, "no level, ten items", () -> x.head(0, 2, 1));
        due.isThrown(Due.ARGUMENT, "no need, ten items", () -> x.head(0, 0, 0));
        due.sentence("4, 5, 10", "the one that is named first in the throws clause is thrown");
        Drafts.put(x, Drafts.eights(20));
        due.isThrown(Due.ARGUMENT, "no width, 20 words", () -> x.word(9, 0, 0));
        due.isThrown(Due.ARGUMENT, "no kind, 20 words", () -> x.word(1, 6, 0));
        due.isThrown(Due.ARGUMENT, "no value, 20 words", () -> x.word(1, 2, 5));
        due.isThrown(Due.ARGUMENT, "no label, 20 words", () -> x.refer(-1));
        due.isThrown(Due.INDEX, "no term, no other", () -> x.seeAlso(10, 11));
        due.isThrown(Due.INDEX, "no term, the same", () -> x.seeAlso(-1, -1));
    }

    private static void firstOfThoseOfAsking() {
        due.sentence("16 to 37", "the one that is named first in the throws clause is thrown");
        Facingleaf x = new Facingleaf();
        x.head(0, 0, 1);
        due.isThrown(Due.INDEX, "not composed, no word", () -> x.widthOf(0, 0, 0));
        due.isThrown(Due.INDEX, "not composed, no item", () -> x.lines(0, 1));
        due.isThrown(Due.INDEX, "not composed, no line", () -> x.wordsTo(0, 0, -1));
        due.isThrown(Due.INDEX, "not composed, no item", () -> x.costOfLines(1, 0));
        due.isThrown(Due.INDEX, "not composed, no chapter", () -> x.rows(3));
        due.isThrown(Due.INDEX, "not composed, no page", () -> x.kindOf(0));
        due.isThrown(Due.INDEX, "not composed, no chapter", () -> x.pageOf(3, true));
        due.isThrown(Due.INDEX, "not composed, no row", () -> x.pageOfRow(0, -1));
        due.isThrown(Due.INDEX, "not composed, no page, no what", () -> x.onPage(0, 5));
        due.isThrown(Due.ARGUMENT, "not composed, no what", () -> x.onPage(1, 5));
        due.isThrown(Due.INDEX, "not composed, no chapter", () -> x.cost(-1));
        due.isThrown(Due.INDEX, "not composed, no chapter", () -> x.costByAll(-1));
        due.isThrown(Due.INDEX, "not composed, no word", () -> x.textOf(0, 0, 0));
        due.isThrown(Due.INDEX, "not composed, no word", () -> x.noteOf(0, 0, 0));
        due.isThrown(Due.INDEX, "not composed, no page", () -> x.headOf(0, true));
        due.isThrown(Due.INDEX, "not composed, no word", () -> x.marginOf(0, 0, 0));
        due.isThrown(Due.INDEX, "not composed, no term", () -> x.ranges(10));
        due.isThrown(Due.INDEX, "not composed, no term, no range", () -> x.range(10, -1, true));
        due.isThrown(Due.ARGUMENT, "not composed, no range", () -> x.range(9, -1, true));
        due.isThrown(Due.ARGUMENT, "not composed, no line", () -> x.indexLine(-1));
    }

    private static void numbersBelowNothing() {
        due.sentence("18, 23, 25, 26, 32", "of rows and lines of a book that is not composed "
            + "just numbers below 0 are none, and of pages just those below 1");
        Facingleaf x = Drafts.book(8, 8);
        x.head(0, 0, 1);
        due.areThrown(Due.INDEX, "a row", r -> x.pageOfRow(0, r), -1, LEAST);
        due.areThrown(Due.STATE, "a row", r -> x.pageOfRow(0, r), 0, 1, MOST);
        due.areThrown(Due.STATE, "a row of an empty chapter", r -> x.pageOfRow(1, r), 0, MOST);
        due.areThrown(Due.INDEX, "a line", k -> x.wordsTo(0, 0, k), -1, LEAST);
        due.areThrown(Due.STATE, "a line", k -> x.wordsTo(0, 0, k), 0, 1, MOST);
        due.areThrown(Due.INDEX, "a page", p -> x.kindOf(p), 0, -1, LEAST);
        due.areThrown(Due.STATE, "a page", p -> x.kindOf(p), 1, MOST);
        due.areThrown(Due.INDEX, "a page", p -> x.onPage(p, 0), 0, -1, LEAST);
        due.areThrown(Due.STATE, "a page", p -> x.onPage(p, 0), 1, MOST);
        due.areThrown(Due.INDEX, "a page", p -> x.headOf(p, true), 0, -1, LEAST);
        due.areThrown(Due.STATE, "a page", p -> x.headOf(p, true), 1, MOST);
        x.compose(false);
        due.areThrown(Due.INDEX, "a row of a composed book", r -> x.pageOfRow(0, r), -1, 1, MOST);
        due.areThrown(Due.INDEX, "a line of it", k -> x.wordsTo(0, 0, k), -1, 1, MOST);
        due.areThrown(Due.INDEX, "a page of it", p -> x.kindOf(p), 0, 4, MOST);
        Drafts.paragraph(x, 0, "8");
        due.areThrown(Due.STATE, "a page of a book that was composed", p -> x.kindOf(p), 4, MOST);
    }

    private static void allCallsOfANewObject() {
        due.sentence("16 to 39", "if the book is not composed");
        Facingleaf x = new Facingleaf();
        Drafts.paragraph(x, 0, "8");
        due.isThrown(Due.STATE, "widthOf", () -> x.widthOf(0, 0, 0));
        due.isThrown(Due.STATE, "lines", () -> x.lines(0, 0));
        due.isThrown(Due.STATE, "wordsTo", () -> x.wordsTo(0, 0, 0));
        due.isThrown(Due.STATE, "costOfLines", () -> x.costOfLines(0, 0));
        due.isThrown(Due.STATE, "rows", () -> x.rows(0));
        due.isThrown(Due.STATE, "broken", x::broken);
        due.isThrown(Due.STATE, "pages", x::pages);
        due.isThrown(Due.STATE, "kindOf", () -> x.kindOf(1));
        due.isThrown(Due.STATE, "pageOf", () -> x.pageOf(0, false));
        due.isThrown(Due.STATE, "pageOfRow", () -> x.pageOfRow(0, 0));
        due.isThrown(Due.STATE, "onPage", () -> x.onPage(1, 0));
        due.isThrown(Due.STATE, "cost", () -> x.cost(0));
        due.isThrown(Due.STATE, "costByAll", () -> x.costByAll(0));
        due.isThrown(Due.STATE, "isSettled", x::isSettled);
        due.isThrown(Due.STATE, "textOf", () -> x.textOf(0, 0, 0));
        due.isThrown(Due.STATE, "noteOf", () -> x.noteOf(0, 0, 0));
        due.isThrown(Due.STATE, "headOf", () -> x.headOf(1, false));
        due.isThrown(Due.STATE, "marginOf", () -> x.marginOf(0, 0, 0));
        due.isThrown(Due.STATE, "ranges", () -> x.ranges(0));
        due.isThrown(Due.STATE, "range", () -> x.range(0, 0, false));
        due.isThrown(Due.STATE, "indexLines", x::indexLines);
        due.isThrown(Due.STATE, "indexLine", () -> x.indexLine(0));
        due.isThrown(Due.STATE, "sheets", x::sheets);
        due.isThrown(Due.STATE, "untouched", x::untouched);
        due.isThrown(Due.STATE, "print", x::print);
    }

    private static void theLastCall() {
        due.sentence("1", "An object is used for at most 512 calls after it has been made");
        Facingleaf x = new Facingleaf();
        Drafts.rows(x, 0, 10);
        x.compose(false);
        x.print();
        // 13 calls were made; each replacing takes two
        for (int k = 0; k < 247; k++) {
            Drafts.replace(x, 0, 0, "8");
        }
        due.is("the 508th", x.compose(true), 1);
        due.is("the 509th", x.rows(0), 1);
        due.is("the 510th: it was replaced since", x.untouched(), 0);
        due.is("the 511th", x.print(), 1);
        due.is("the 512th", x.untouched(), 1);
        Facingleaf y = new Facingleaf();
        Drafts.rows(y, 0, 10);
        for (int k = 0; k < 249; k++) {
            due.is("compose", y.compose(false), 1);
            due.is("print", y.print(), 1);
        }
        due.is("the 510th", y.compose(true), 1);
        due.is("the 511th", y.pageOfRow(0, 9), 1);
        due.is("the 512th", y.untouched(), 1);
    }

    public static void main(String[] args) {
        refusedSetting();
        refusedWords();
        refusedItems();
        refusedInAFullChapter();
        refusedReplacing();
        refusedAsking();
        askingChangesNothing();
        firstOfIndexAndState();
        firstOfThoseOfAsking();
        numbersBelowNothing();
        allCallsOfANewObject();
        theLastCall();
        due.end();
    }
}
