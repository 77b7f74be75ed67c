import java.util.ArrayList;
import java.util.List;
import java.util.function.Supplier;

/** Puts each call to Facingleaf and to PlainBook, and compares the answers; at most 512 calls. */
class Both {

    /** Thrown when 512 calls were made. */
    static final class Enough extends RuntimeException {
        private static final long serialVersionUID = 1L;
    }

    final Facingleaf one = new Facingleaf();
    final PlainBook other = new PlainBook();
    private final List<String> calls = new ArrayList<>();

    String same(String call, Supplier<Object> mine, Supplier<Object> due) {
        if (calls.size() == 512) {
            throw new Enough();
        }
        String got = Due.answer(mine);
        String want = Due.answer(due);
        calls.add(call + " = " + got);
        if (!got.equals(want)) {
            for (String line : calls) {
                System.out.println("  " + line);
            }
            throw new AssertionError(call + " answered " + got + ", due is " + want);
        }
        return got;
    }

    void measures(int width, int depth) {
        same("setMeasures(" + width + ", " + depth + ")", () -> one.setMeasures(width, depth),
            () -> other.setMeasures(width, depth));
    }

    void byPage(boolean isByPage) {
        same("setByPage(" + isByPage + ")", () -> one.setByPage(isByPage),
            () -> other.setByPage(isByPage));
    }

    void word(int width, int kind, int value) {
        same("word(" + width + ", " + kind + ", " + value + ")",
            () -> one.word(width, kind, value), () -> other.word(width, kind, value));
    }

    void refer(int label) {
        same("refer(" + label + ")", () -> one.refer(label), () -> other.refer(label));
    }

    void clear() {
        same("clear()", () -> one.clear(), () -> other.clear());
    }

    String paragraph(int c) {
        return same("paragraph(" + c + ")", () -> one.paragraph(c), () -> other.paragraph(c));
    }

    void head(int c, int level, int need) {
        same("head(" + c + ", " + level + ", " + need + ")", () -> one.head(c, level, need),
            () -> other.head(c, level, need));
    }

    void replace(int c, int i) {
        same("replace(" + c + ", " + i + ")", () -> one.replace(c, i), () -> other.replace(c, i));
    }

    void seeAlso(int term, int also) {
        same("seeAlso(" + term + ", " + also + ")", () -> one.seeAlso(term, also),
            () -> other.seeAlso(term, also));
    }

    String compose(boolean keep) {
        return same("compose(" + keep + ")", () -> one.compose(keep), () -> other.compose(keep));
    }

    void print() {
        same("print()", () -> one.print(), () -> other.print());
    }

    void tellWord(int c, int i, int w) {
        String at = "(" + c + ", " + i + ", " + w + ")";
        same("widthOf" + at, () -> one.widthOf(c, i, w), () -> other.widthOf(c, i, w));
        same("textOf" + at, () -> one.textOf(c, i, w), () -> other.textOf(c, i, w));
        same("noteOf" + at, () -> one.noteOf(c, i, w), () -> other.noteOf(c, i, w));
        same("marginOf" + at, () -> one.marginOf(c, i, w), () -> other.marginOf(c, i, w));
    }

    void tellBook() {
        same("isComposed()", () -> one.isComposed(), () -> other.isComposed());
        same("pages()", () -> one.pages(), () -> other.pages());
        same("broken()", () -> one.broken(), () -> other.broken());
        same("isSettled()", () -> one.isSettled(), () -> other.isSettled());
        same("indexLines()", () -> one.indexLines(), () -> other.indexLines());
        same("sheets()", () -> one.sheets(), () -> other.sheets());
        same("untouched()", () -> one.untouched(), () -> other.untouched());
    }

    String cost(int c) {
        return same("cost(" + c + ")", () -> one.cost(c), () -> other.cost(c));
    }

    String costByAll(int c) {
        return same("costByAll(" + c + ")", () -> one.costByAll(c), () -> other.costByAll(c));
    }

    void tellChapter(int c) {
        same("rows(" + c + ")", () -> one.rows(c), () -> other.rows(c));
        same("pageOf(" + c + ", true)", () -> one.pageOf(c, true), () -> other.pageOf(c, true));
        same("pageOf(" + c + ", false)", () -> one.pageOf(c, false),
            () -> other.pageOf(c, false));
    }

    void tellPage(int p, boolean isLast) {
        same("kindOf(" + p + ")", () -> one.kindOf(p), () -> other.kindOf(p));
        same("headOf(" + p + ", " + isLast + ")", () -> one.headOf(p, isLast),
            () -> other.headOf(p, isLast));
    }

    void tellOnPage(int p, int what) {
        same("onPage(" + p + ", " + what + ")", () -> one.onPage(p, what),
            () -> other.onPage(p, what));
    }

    void tellItem(int c, int i) {
        same("lines(" + c + ", " + i + ")", () -> one.lines(c, i), () -> other.lines(c, i));
        same("costOfLines(" + c + ", " + i + ")", () -> one.costOfLines(c, i),
            () -> other.costOfLines(c, i));
    }
}
