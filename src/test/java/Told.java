import java.util.ArrayList;
import java.util.List;

/** All that a book tells, as one list of texts; of a small book some two hundred calls. */
final class Told {

    private final Facingleaf x;
    private final List<String> told = new ArrayList<>();

    private Told(Facingleaf x) {
        this.x = x;
    }

    static List<String> all(Facingleaf x) {
        Told told = new Told(x);
        told.book();
        for (int c = 0; c < 3; c++) {
            told.chapter(c);
        }
        told.pages();
        told.index();
        return told.told;
    }

    private void book() {
        told.add("isComposed " + x.isComposed());
        told.add("pages " + Due.answer(x::pages));
        told.add("broken " + Due.answer(x::broken));
        told.add("isSettled " + Due.answer(x::isSettled));
        told.add("sheets " + Due.answer(x::sheets));
        told.add("untouched " + Due.answer(x::untouched));
    }

    private void chapter(int c) {
        told.add("rows " + c + " " + Due.answer(() -> x.rows(c)));
        told.add("cost " + c + " " + Due.answer(() -> x.cost(c)));
        told.add("costByAll " + c + " " + Due.answer(() -> x.costByAll(c)));
        told.add("pageOf " + c + " " + Due.answer(() -> x.pageOf(c, true)));
        int items = x.items(c);
        for (int i = 0; i < items; i++) {
            item(c, i, x.words(c, i));
        }
        told.add("items " + c + " " + items);
    }

    private void item(int c, int i, int words) {
        told.add("lines " + c + i + " " + Due.answer(() -> x.lines(c, i)));
        told.add("wordsTo " + c + i + " " + Due.answer(() -> x.wordsTo(c, i, 0)));
        told.add("costOfLines " + c + i + " " + Due.answer(() -> x.costOfLines(c, i)));
        for (int w = 0; w < words; w++) {
            int word = w;
            told.add("widthOf " + w + " " + Due.answer(() -> x.widthOf(c, i, word)));
            told.add("textOf " + w + " " + Due.answer(() -> x.textOf(c, i, word)));
            told.add("noteOf " + w + " " + Due.answer(() -> x.noteOf(c, i, word)));
            told.add("marginOf " + w + " " + Due.answer(() -> x.marginOf(c, i, word)));
        }
        told.add("words " + c + i + " " + words);
    }

    private void pages() {
        int pages = x.isComposed() ? x.pages() : 0;
        for (int p = 1; p <= pages; p++) {
            told.add("kindOf " + p + " " + x.kindOf(p));
            told.add("headOf " + p + " " + x.headOf(p, true));
            for (int what = 0; what < 5; what++) {
                told.add("onPage " + p + " " + what + " " + x.onPage(p, what));
            }
        }
    }

    private void index() {
        told.add("indexLines " + Due.answer(x::indexLines));
        told.add("indexLine " + Due.answer(() -> x.indexLine(1)));
        for (int t = 0; t < 10; t += 3) {
            int term = t;
            told.add("ranges " + t + " " + Due.answer(() -> x.ranges(term)));
            told.add("range " + t + " " + Due.answer(() -> x.range(term, 0, true)));
        }
    }
}
