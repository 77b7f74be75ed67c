import java.util.ArrayList;
import java.util.Arrays;
import java.util.Collections;
import java.util.HashMap;
import java.util.List;
import java.util.Map;
import java.util.TreeSet;

/**
 * The document once more, in the plainest words and without regard to speed: lists that are made
 * anew, ways that are compared as wholes. It has nothing in common with Facingleaf but the face.
 */
final class PlainBook {

    record Word(int width, int kind, int value) { }

    /** A replaced item is another object. */
    static final class Item {
        boolean isHead;
        int need;
        List<Word> words = new ArrayList<>();
        // as broken last; lines are the words up to their ends
        List<Integer> brokenWidths = null;
        int brokenBy = 0;
        List<Integer> lines = null;
        int lineCost = 0;
    }

    record Row(int chapter, int number, Item item, int from, int to) { }

    /** A float, or a line of a note: of which word of which item, and which line of the note. */
    record Piece(int number, Item item, int word, int line, int high) { }

    static final class Page {
        int kind;
        int number;
        List<Row> rows = new ArrayList<>();
        List<Piece> floats = new ArrayList<>();
        List<Piece> notes = new ArrayList<>();
        int grown;
        int filled;
        int cost;
        boolean isVeryLast;
        List<String> texts = new ArrayList<>();
    }

    static final class Printed {
        int width;
        int depth;
        List<Page> pages = new ArrayList<>();
    }

    final List<List<Item>> chapters = List.of(new ArrayList<>(), new ArrayList<>(), new ArrayList<>());
    List<Word> draft = new ArrayList<>();
    final int[] also = new int[10];
    int width = 16;
    int depth = 10;
    boolean byPage = false;
    boolean composed = false;
    boolean settled = false;
    /** Whether twelve rounds were made in which nothing was taken twice. */
    boolean endless = false;
    int brokenCount = 0;
    Printed printed = null;

    // of the composed book
    List<Page> pages = new ArrayList<>();
    List<List<Row>> rowsOf = new ArrayList<>();
    int[] costs = new int[3];
    Map<String, Integer> taken = new HashMap<>();
    int contents;
    int indexFirst;

    PlainBook() {
        Arrays.fill(also, -1);
    }

    // ---- the book

    int setMeasures(int w, int d) {
        if (w < 8 || w > 30 || d < 8 || d > 14) {
            throw new IllegalArgumentException();
        }
        int before = width;
        width = w;
        depth = d;
        composed = false;
        return before;
    }

    boolean setByPage(boolean b) {
        boolean before = byPage;
        byPage = b;
        composed = false;
        return before;
    }

    int word(int w, int kind, int value) {
        int[] low = {0, 0, 1, 2, 0, 1};
        int[] high = {0, 9, 4, 5, 9, 3};
        if (w < 1 || w > 8 || kind < 0 || kind > 5 || value < low[kind] || value > high[kind]) {
            throw new IllegalArgumentException();
        }
        if (draft.size() == 20) {
            throw new IllegalStateException();
        }
        draft.add(new Word(w, kind, value));
        return draft.size();
    }

    int refer(int label) {
        if (label < 0 || label > 9) {
            throw new IllegalArgumentException();
        }
        if (draft.size() == 20) {
            throw new IllegalStateException();
        }
        draft.add(new Word(0, 6, label));
        return draft.size();
    }

    int clear() {
        int before = draft.size();
        draft = new ArrayList<>();
        return before;
    }

    private void needChapter(int c) {
        if (c < 0 || c > 2) {
            throw new IndexOutOfBoundsException();
        }
    }

    private void needItem(int c, int i) {
        needChapter(c);
        if (i < 0 || i >= chapters.get(c).size()) {
            throw new IndexOutOfBoundsException();
        }
    }

    private void needWord(int c, int i, int w) {
        needItem(c, i);
        if (w < 0 || w >= chapters.get(c).get(i).words.size()) {
            throw new IndexOutOfBoundsException();
        }
    }

    private void needComposed() {
        if (!composed) {
            throw new IllegalStateException();
        }
    }

    private void needPage(int p) {
        if (p < 1 || composed && p > pages.size()) {
            throw new IndexOutOfBoundsException();
        }
    }

    private void needTerm(int t) {
        if (t < 0 || t > 9) {
            throw new IndexOutOfBoundsException();
        }
    }

    private boolean fits(List<Item> chapterThen) {
        List<Word> words = new ArrayList<>();
        for (Item item : chapterThen) {
            words.addAll(item.words);
        }
        int lines = words.stream().filter(w -> w.kind == 2).mapToInt(Word::value).sum();
        long floats = words.stream().filter(w -> w.kind == 3).count();
        return words.size() <= 60 && lines <= 12 && floats <= 4;
    }

    private boolean labelsDiffer(List<List<Item>> bookThen) {
        List<Integer> labels = new ArrayList<>();
        for (List<Item> chapter : bookThen) {
            for (Item item : chapter) {
                item.words.stream().filter(w -> w.kind == 1).forEach(w -> labels.add(w.value));
            }
        }
        return new TreeSet<>(labels).size() == labels.size();
    }

    private int put(int c, int i) {
        Item item = new Item();
        item.words = draft;
        List<List<Item>> then = new ArrayList<>();
        for (List<Item> chapter : chapters) {
            then.add(new ArrayList<>(chapter));
        }
        if (i == then.get(c).size()) {
            then.get(c).add(item);
        } else {
            then.get(c).set(i, item);
        }
        if (draft.isEmpty() || then.get(c).size() > 10 || !fits(then.get(c)) || !labelsDiffer(then)) {
            throw new IllegalStateException();
        }
        chapters.get(c).clear();
        chapters.get(c).addAll(then.get(c));
        draft = new ArrayList<>();
        composed = false;
        return i;
    }

    int paragraph(int c) {
        needChapter(c);
        return put(c, chapters.get(c).size());
    }

    int head(int c, int level, int need) {
        needChapter(c);
        if (level < 0 || level > 1 || need < 1 || need > 3) {
            throw new IllegalArgumentException();
        }
        if (chapters.get(c).size() == 10) {
            throw new IllegalStateException();
        }
        Item item = new Item();
        item.isHead = true;
        item.need = need;
        chapters.get(c).add(item);
        composed = false;
        return chapters.get(c).size() - 1;
    }

    int replace(int c, int i) {
        needItem(c, i);
        Item old = chapters.get(c).get(i);
        if (old.isHead) {
            throw new IllegalStateException();
        }
        put(c, i);
        return old.words.size();
    }

    int seeAlso(int term, int other) {
        needTerm(term);
        if (other < -1 || other > 9 || other == term) {
            throw new IllegalArgumentException();
        }
        int before = also[term];
        also[term] = other;
        composed = false;
        return before;
    }

    // ---- composing

    private static String key(int c, int i, int w) {
        return c + "." + i + "." + w;
    }

    int compose(boolean keep) {
        if (keep && printed == null) {
            throw new IllegalStateException();
        }
        composed = false;
        settled = false;
        endless = false;
        brokenCount = 0;
        List<Map<String, Integer>> takenBy = new ArrayList<>();
        takenBy.add(firstWidths());
        while (true) {
            taken = takenBy.get(takenBy.size() - 1);
            if (!round(keep)) {
                return -1;
            }
            if (settled) {
                break;
            }
            Map<String, Integer> found = found();
            if (found.equals(taken)) {
                break;
            }
            int ring = takenBy.indexOf(found);
            if (ring < 0 && takenBy.size() == 12) {
                endless = true;
                ring = 0;
            }
            if (ring >= 0) {
                Map<String, Integer> widest = new HashMap<>();
                for (Map<String, Integer> one : takenBy.subList(ring, takenBy.size())) {
                    one.forEach((k, v) -> widest.merge(k, v, Math::max));
                }
                takenBy.add(widest);
                settled = true;
            } else {
                takenBy.add(found);
            }
        }
        composed = true;
        addIndex();
        return takenBy.size();
    }

    private Map<String, Integer> firstWidths() {
        Map<String, Integer> first = new HashMap<>();
        for (int c = 0; c < 3; c++) {
            int notes = 0;
            for (int i = 0; i < chapters.get(c).size(); i++) {
                List<Word> words = chapters.get(c).get(i).words;
                for (int w = 0; w < words.size(); w++) {
                    if (words.get(w).kind == 2) {
                        notes++;
                        first.put(key(c, i, w), byPage ? 1 : String.valueOf(notes).length());
                    }
                    if (words.get(w).kind == 6) {
                        first.put(key(c, i, w), 2);
                    }
                }
            }
        }
        return first;
    }

    private Map<String, Integer> found() {
        Map<String, Integer> found = new HashMap<>();
        for (String k : taken.keySet()) {
            int[] at = Arrays.stream(k.split("\\.")).mapToInt(Integer::parseInt).toArray();
            Word word = chapters.get(at[0]).get(at[1]).words.get(at[2]);
            if (word.kind == 2) {
                found.put(k, String.valueOf(number(at[0], at[1], at[2])).length());
            } else {
                int text = text(at[0], at[1], at[2]);
                found.put(k, text == 0 ? 2 : text == 1 ? 5 : text == 2 ? 8
                    : 5 + String.valueOf(text - 10).length());
            }
        }
        return found;
    }

    private int wide(int c, int i, int w) {
        return chapters.get(c).get(i).words.get(w).width + taken.getOrDefault(key(c, i, w), 0);
    }

    private boolean round(boolean keep) {
        for (int c = 0; c < 3; c++) {
            for (int i = 0; i < chapters.get(c).size(); i++) {
                breakAnew(c, i);
            }
        }
        pages = new ArrayList<>();
        rowsOf = new ArrayList<>();
        int heads = 0;
        for (List<Item> chapter : chapters) {
            heads += (int) chapter.stream().filter(x -> x.isHead).count();
        }
        contents = (heads + depth - 1) / depth;
        contents += contents % 2;
        for (int p = 0; p < contents; p++) {
            addPage(new Page(), 3);
        }
        for (int c = 0; c < 3; c++) {
            rowsOf.add(rowsOfChapter(c));
            costs[c] = 0;
            if (!rowsOf.get(c).isEmpty()) {
                if (pages.size() % 2 == 1) {
                    addPage(new Page(), 4);
                }
                List<Page> made = new Maker(c, rowsOf.get(c)).make(keep, pages.size() + 1);
                if (made == null) {
                    return false;
                }
                for (Page page : made) {
                    addPage(page, c);
                    costs[c] += page.cost;
                }
            }
        }
        return true;
    }

    private void addPage(Page page, int kind) {
        page.kind = kind;
        pages.add(page);
        page.number = pages.size();
    }

    private void breakAnew(int c, int i) {
        Item item = chapters.get(c).get(i);
        if (item.isHead) {
            return;
        }
        List<Integer> widths = new ArrayList<>();
        for (int w = 0; w < item.words.size(); w++) {
            widths.add(wide(c, i, w));
        }
        if (item.brokenWidths != null && item.brokenWidths.equals(widths) && item.brokenBy == width) {
            return;
        }
        brokenCount++;
        item.brokenWidths = widths;
        item.brokenBy = width;
        Way best = linesFrom(widths, 0, new HashMap<>());
        item.lineCost = best.cost;
        item.lines = new ArrayList<>();
        int end = 0;
        for (int count : best.counts) {
            end += count;
            item.lines.add(end);
        }
    }

    record Way(int cost, List<Integer> counts) { }

    private Way linesFrom(List<Integer> widths, int from, Map<Integer, Way> known) {
        if (from == widths.size()) {
            return new Way(0, List.of());
        }
        if (known.containsKey(from)) {
            return known.get(from);
        }
        Way best = null;
        for (int to = from + 1; to <= widths.size(); to++) {
            int length = widths.subList(from, to).stream().mapToInt(x -> x).sum() + to - from - 1;
            if (to > from + 1 && length > width) {
                continue;
            }
            int cost = length > width ? 100 * (length - width)
                : to == widths.size() ? 0 : (width - length) * (width - length);
            Way rest = linesFrom(widths, to, known);
            List<Integer> counts = new ArrayList<>(List.of(to - from));
            counts.addAll(rest.counts);
            Way way = new Way(cost + rest.cost, counts);
            if (best == null || isBetterLines(way, best)) {
                best = way;
            }
        }
        known.put(from, best);
        return best;
    }

    private static boolean isBetterLines(Way a, Way b) {
        if (a.cost != b.cost) {
            return a.cost < b.cost;
        }
        if (a.counts.size() != b.counts.size()) {
            return a.counts.size() < b.counts.size();
        }
        for (int k = 0; k < a.counts.size(); k++) {
            if (!a.counts.get(k).equals(b.counts.get(k))) {
                return a.counts.get(k) > b.counts.get(k);
            }
        }
        return false;
    }

    private List<Row> rowsOfChapter(int c) {
        List<Row> rows = new ArrayList<>();
        for (int i = 0; i < chapters.get(c).size(); i++) {
            Item item = chapters.get(c).get(i);
            if (item.isHead) {
                rows.add(new Row(c, i, item, 0, 0));
            } else {
                int from = 0;
                for (int to : item.lines) {
                    rows.add(new Row(c, i, item, from, to));
                    from = to;
                }
            }
        }
        return rows;
    }

    /** Pages from a place on: their costs together, and what was chosen of each. */
    record Pagination(int cost, List<Page> pages) { }

    /** Makes the pages of a chapter. */
    private final class Maker {
        final int chapter;
        final List<Row> rows;
        final Map<List<Integer>, Pagination> known = new HashMap<>();

        Maker(int chapter, List<Row> rows) {
            this.chapter = chapter;
            this.rows = rows;
        }

        List<Piece> pieces(int to, int kind) {
            List<Piece> all = new ArrayList<>();
            for (Row row : rows.subList(0, to)) {
                for (int w = row.from; w < row.to; w++) {
                    Word word = row.item.words.get(w);
                    if (word.kind == kind && kind == 3) {
                        all.add(new Piece(row.number, row.item, w, 0, word.value));
                    } else if (word.kind == kind) {
                        for (int line = 0; line < word.value; line++) {
                            all.add(new Piece(row.number, row.item, w, line, 1));
                        }
                    }
                }
            }
            return all;
        }

        boolean hasBlank(int row) {
            return row > 0 && rows.get(row).number != rows.get(row - 1).number;
        }

        int blanks(int from, int to) {
            int blanks = 0;
            for (int r = from + 1; r < to; r++) {
                blanks += hasBlank(r) ? 1 : 0;
            }
            return blanks;
        }

        boolean isHeadLate(int head, int to) {
            return rows.get(head).item.isHead && to - 1 - head < rows.get(head).item.need
                && to < rows.size();
        }

        /** The page of rows from..to-1 with so many floats; null if there is none. */
        Page page(int from, int to, int floatsBefore, int floats, int notesBefore) {
            Page page = new Page();
            List<Piece> allFloats = pieces(to, 3);
            if (floats > 2 || floatsBefore + floats > allFloats.size()) {
                return null;
            }
            page.rows = rows.subList(from, to);
            page.floats = allFloats.subList(floatsBefore, floatsBefore + floats);
            int blanks = blanks(from, to);
            int used = to - from + blanks + page.floats.stream().mapToInt(Piece::high).sum();
            if (used > depth) {
                return null;
            }
            List<Piece> waiting = pieces(to, 2).subList(notesBefore, pieces(to, 2).size());
            int lines = waiting.size();
            while (lines > 0 && used + 1 + lines > depth) {
                lines--;
            }
            page.notes = waiting.subList(0, lines);
            used += lines > 0 ? lines + 1 : 0;
            for (Row row : page.rows) {
                for (int w = row.from; w < row.to; w++) {
                    int word = w;
                    if (row.item.words.get(w).kind == 2 && page.notes.stream()
                            .noneMatch(n -> n.item == row.item && n.word == word)) {
                        return null;
                    }
                }
            }
            for (int r = from; r < to; r++) {
                if (isHeadLate(r, to)) {
                    return null;
                }
            }
            page.isVeryLast = to == rows.size() && lines == waiting.size()
                && floatsBefore + floats == allFloats.size();
            if (!page.isVeryLast) {
                while (page.grown < blanks && used + page.grown < depth) {
                    page.grown++;
                }
                used += page.grown;
                page.cost += page.grown + (depth - used) * (depth - used);
            }
            page.filled = used;
            Row first = rows.get(from);
            Row last = rows.get(to - 1);
            if (!first.item.isHead && first.item.lines.size() >= 2
                    && first.to == first.item.words.size()) {
                page.cost += 15;
            }
            if (!last.item.isHead && last.item.lines.size() >= 2 && last.from == 0) {
                page.cost += 15;
            }
            page.cost += 3 * (allFloats.size() - floatsBefore - floats);
            page.cost += 2 * (waiting.size() - lines);
            return page;
        }

        int facing(Page page, int number, Page ahead) {
            return number % 2 == 1 && ahead != null && !page.isVeryLast
                ? Math.abs(page.filled - ahead.filled) : 0;
        }

        List<Page> bare(int floatsBefore, int notesBefore) {
            List<Page> bare = new ArrayList<>();
            List<Piece> floats = new ArrayList<>(pieces(rows.size(), 3));
            List<Piece> notes = new ArrayList<>(pieces(rows.size(), 2));
            floats.subList(0, floatsBefore).clear();
            notes.subList(0, notesBefore).clear();
            while (!floats.isEmpty() || !notes.isEmpty()) {
                Page page = new Page();
                while (!floats.isEmpty() && page.filled + floats.get(0).high <= depth) {
                    page.filled += floats.get(0).high;
                    page.floats.add(floats.remove(0));
                }
                while (!notes.isEmpty()
                        && page.filled + (page.notes.isEmpty() ? 2 : 1) <= depth) {
                    page.filled += page.notes.isEmpty() ? 2 : 1;
                    page.notes.add(notes.remove(0));
                }
                page.cost = 5;
                bare.add(page);
            }
            return bare;
        }

        /** The best pages from a row on; null if there are none. */
        Pagination best(int from, int floatsBefore, int notesBefore, int number, Page ahead) {
            if (from == rows.size()) {
                List<Page> bare = bare(floatsBefore, notesBefore);
                return new Pagination(5 * bare.size(), bare);
            }
            List<Integer> key = List.of(from, floatsBefore, notesBefore, number % 2,
                ahead == null || number % 2 == 0 ? 0 : ahead.filled);
            if (known.containsKey(key)) {
                return known.get(key);
            }
            Pagination best = null;
            for (int to = from + 1; to <= rows.size() && to <= from + depth; to++) {
                for (int floats = 0; floats <= 2; floats++) {
                    Page page = page(from, to, floatsBefore, floats, notesBefore);
                    if (page == null) {
                        continue;
                    }
                    page.cost += facing(page, number, ahead);
                    Pagination rest = best(to, floatsBefore + floats,
                        notesBefore + page.notes.size(), number + 1, page);
                    if (rest == null) {
                        continue;
                    }
                    List<Page> all = new ArrayList<>(List.of(page));
                    all.addAll(rest.pages);
                    Pagination way = new Pagination(page.cost + rest.cost, all);
                    if (best == null || isBetterPages(way, best)) {
                        best = way;
                    }
                }
            }
            known.put(key, best);
            return best;
        }

        boolean isBetterPages(Pagination a, Pagination b) {
            if (a.cost != b.cost) {
                return a.cost < b.cost;
            }
            for (int k = 0; k < a.pages.size() && k < b.pages.size(); k++) {
                Page x = a.pages.get(k);
                Page y = b.pages.get(k);
                if (x.rows.size() != y.rows.size()) {
                    return x.rows.size() > y.rows.size();
                }
                if (x.floats.size() != y.floats.size()) {
                    return x.floats.size() > y.floats.size();
                }
            }
            return false;
        }

        List<Page> make(boolean keep, int first) {
            List<Page> made = keep ? kept(first) : new ArrayList<>();
            int from = 0;
            int floats = 0;
            int notes = 0;
            for (Page page : made) {
                from += page.rows.size();
                floats += page.floats.size();
                notes += page.notes.size();
            }
            Page ahead = made.isEmpty() ? null : made.get(made.size() - 1);
            Pagination rest = best(from, floats, notes, first + made.size(), ahead);
            if (rest == null) {
                return null;
            }
            made.addAll(rest.pages);
            return made;
        }

        List<Page> kept(int first) {
            List<Page> kept = new ArrayList<>();
            List<Page> old = new ArrayList<>();
            for (Page page : printed.pages) {
                if (page.kind == chapter) {
                    old.add(page);
                }
            }
            if (old.isEmpty() || printed.width != width || printed.depth != depth
                    || old.get(0).number != first) {
                return kept;
            }
            int from = 0;
            for (int k = 0; k + 1 < old.size() && !old.get(k + 1).rows.isEmpty(); k++) {
                Page page = old.get(k);
                int to = from + page.rows.size();
                if (to > rows.size() || !rows.subList(from, to).equals(page.rows)) {
                    break;
                }
                Page again = new Page();
                again.rows = page.rows;
                again.floats = page.floats;
                again.notes = page.notes;
                again.grown = page.grown;
                again.filled = page.filled;
                again.cost = page.cost;
                kept.add(again);
                from = to;
            }
            return kept;
        }
    }

    // ---- what pages tell

    private Page pageOfWord(int c, int i, int w) {
        for (Page page : pages) {
            for (Row row : page.rows) {
                if (row.chapter == c && row.number == i && row.from <= w && w < row.to) {
                    return page;
                }
            }
        }
        throw new AssertionError();
    }

    private int number(int c, int i, int w) {
        if (chapters.get(c).get(i).words.get(w).kind != 2) {
            return 0;
        }
        Page at = pageOfWord(c, i, w);
        int count = 0;
        for (Page page : pages) {
            for (Row row : page.rows) {
                for (int v = row.from; v < row.to; v++) {
                    boolean isUpTo = row.number < i || row.number == i && v <= w;
                    if (row.chapter == c && isUpTo && (!byPage || page == at)
                            && row.item.words.get(v).kind == 2) {
                        count++;
                    }
                }
            }
        }
        return count;
    }

    private int text(int c, int i, int w) {
        Word word = chapters.get(c).get(i).words.get(w);
        if (word.kind != 6) {
            return -1;
        }
        int here = pageOfWord(c, i, w).number;
        for (int d = 0; d < 3; d++) {
            for (int j = 0; j < chapters.get(d).size(); j++) {
                List<Word> words = chapters.get(d).get(j).words;
                for (int v = 0; v < words.size(); v++) {
                    if (words.get(v).kind == 1 && words.get(v).value == word.value) {
                        int there = pageOfWord(d, j, v).number;
                        return there == here ? 1
                            : here % 2 == 1 && there == here + 1 ? 2 : 10 + there;
                    }
                }
            }
        }
        return 0;
    }

    private List<int[]> rangesOf(int term) {
        TreeSet<Integer> on = new TreeSet<>();
        for (Page page : pages) {
            for (Row row : page.rows) {
                for (int w = row.from; w < row.to; w++) {
                    Word word = row.item.words.get(w);
                    if (word.kind == 4 && word.value == term) {
                        on.add(page.number);
                    }
                }
            }
        }
        List<int[]> ranges = new ArrayList<>();
        for (int p : on) {
            if (on.contains(p - 1)) {
                ranges.get(ranges.size() - 1)[1] = p;
            } else {
                ranges.add(new int[] {p, p});
            }
        }
        return ranges;
    }

    private int countIndexLines() {
        int lines = 0;
        for (int t = 0; t < 10; t++) {
            lines += (rangesOf(t).size() + 2) / 3;
            lines += also[t] < 0 ? 0 : 1;
        }
        return lines;
    }

    private void addIndex() {
        indexFirst = pages.size() + 1;
        for (int lines = countIndexLines(); lines > 0; lines -= 2 * depth) {
            addPage(new Page(), 5);
        }
        for (Page page : pages) {
            for (Row row : page.rows) {
                for (int w = row.from; w < row.to; w++) {
                    page.texts.add(text(row.chapter, row.number, w) + "/"
                        + number(row.chapter, row.number, w));
                }
            }
        }
    }

    int print() {
        needComposed();
        printed = new Printed();
        printed.width = width;
        printed.depth = depth;
        printed.pages = pages;
        return pages.size();
    }

    // ---- what there is

    boolean isComposed() {
        return composed;
    }

    int items(int c) {
        needChapter(c);
        return chapters.get(c).size();
    }

    int words(int c, int i) {
        needItem(c, i);
        return chapters.get(c).get(i).words.size();
    }

    int widthOf(int c, int i, int w) {
        needWord(c, i, w);
        needComposed();
        return wide(c, i, w);
    }

    int lines(int c, int i) {
        needItem(c, i);
        needComposed();
        Item item = chapters.get(c).get(i);
        return item.isHead ? 1 : item.lines.size();
    }

    int wordsTo(int c, int i, int line) {
        needItem(c, i);
        if (line < 0 || composed && line >= lines(c, i)) {
            throw new IndexOutOfBoundsException();
        }
        needComposed();
        Item item = chapters.get(c).get(i);
        return item.isHead ? 0 : item.lines.get(line);
    }

    int costOfLines(int c, int i) {
        needItem(c, i);
        needComposed();
        return chapters.get(c).get(i).lineCost;
    }

    int rows(int c) {
        needChapter(c);
        needComposed();
        return rowsOf.get(c).size();
    }

    int broken() {
        needComposed();
        return brokenCount;
    }

    int pages() {
        needComposed();
        return pages.size();
    }

    int kindOf(int p) {
        needPage(p);
        needComposed();
        return pages.get(p - 1).kind;
    }

    int pageOf(int c, boolean isLast) {
        needChapter(c);
        needComposed();
        List<Integer> of = new ArrayList<>();
        for (Page page : pages) {
            if (page.kind == c) {
                of.add(page.number);
            }
        }
        return of.isEmpty() ? -1 : isLast ? Collections.max(of) : Collections.min(of);
    }

    int pageOfRow(int c, int r) {
        needChapter(c);
        if (r < 0 || composed && r >= rowsOf.get(c).size()) {
            throw new IndexOutOfBoundsException();
        }
        needComposed();
        int left = r;
        for (Page page : pages) {
            if (page.kind == c) {
                if (left < page.rows.size()) {
                    return page.number;
                }
                left -= page.rows.size();
            }
        }
        throw new AssertionError();
    }

    int onPage(int p, int what) {
        needPage(p);
        if (what < 0 || what > 4) {
            throw new IllegalArgumentException();
        }
        needComposed();
        Page page = pages.get(p - 1);
        return new int[] {page.rows.size(), page.floats.size(), page.notes.size(), page.grown,
            page.filled}[what];
    }

    int cost(int c) {
        needChapter(c);
        needComposed();
        return costs[c];
    }

    int costByAll(int c) {
        needChapter(c);
        needComposed();
        if (rowsOf.get(c).size() > 8) {
            throw new IllegalStateException();
        }
        return rowsOf.get(c).isEmpty() ? 0 : new Maker(c, rowsOf.get(c)).best(0, 0, 0, 1, null).cost;
    }

    boolean isSettled() {
        needComposed();
        return settled;
    }

    int textOf(int c, int i, int w) {
        needWord(c, i, w);
        needComposed();
        return text(c, i, w);
    }

    int noteOf(int c, int i, int w) {
        needWord(c, i, w);
        needComposed();
        return number(c, i, w);
    }

    int headOf(int p, boolean isLast) {
        needPage(p);
        needComposed();
        Page page = pages.get(p - 1);
        if (page.kind > 2) {
            return -1;
        }
        List<Integer> on = new ArrayList<>();
        int ahead = -1;
        for (Row row : page.rows) {
            if (row.item.isHead) {
                on.add(row.number);
            }
        }
        for (Page other : pages.subList(0, p - 1)) {
            for (Row row : other.rows) {
                if (row.chapter == page.kind && row.item.isHead) {
                    ahead = row.number;
                }
            }
        }
        return on.isEmpty() ? ahead : isLast ? on.get(on.size() - 1) : on.get(0);
    }

    int marginOf(int c, int i, int w) {
        needWord(c, i, w);
        needComposed();
        List<Object[]> over = new ArrayList<>();
        for (Page page : pages) {
            if (page.kind != c || page.rows.isEmpty()) {
                continue;
            }
            List<Object[]> asked = new ArrayList<>(over);
            over.clear();
            int place = page.floats.isEmpty() ? 0 : page.floats.get(0).high;
            int grown = page.grown;
            Row before = null;
            for (Row row : page.rows) {
                if (before != null && before.number != row.number) {
                    place++;
                    if (grown > 0) {
                        place++;
                        grown--;
                    }
                }
                for (int v = row.from; v < row.to; v++) {
                    if (row.item.words.get(v).kind == 5) {
                        asked.add(new Object[] {key(c, row.number, v), place,
                            row.item.words.get(v).value});
                    }
                }
                place++;
                before = row;
            }
            int end = 0;
            for (Object[] one : asked) {
                int high = (Integer) one[2];
                int at = (Integer) one[1] < end ? end : (Integer) one[1];
                if (at + high > depth) {
                    at = depth - high;
                }
                if (at < end) {
                    over.add(new Object[] {one[0], 0, one[2]});
                    continue;
                }
                if (one[0].equals(key(c, i, w))) {
                    return 100 * page.number + at;
                }
                end = at + high;
            }
        }
        return -1;
    }

    int ranges(int t) {
        needTerm(t);
        needComposed();
        return rangesOf(t).size();
    }

    int range(int t, int range, boolean isEnd) {
        needTerm(t);
        if (range < 0) {
            throw new IllegalArgumentException();
        }
        needComposed();
        List<int[]> all = rangesOf(t);
        return range < all.size() ? all.get(range)[isEnd ? 1 : 0] : -1;
    }

    int indexLines() {
        needComposed();
        return countIndexLines();
    }

    int indexLine(int line) {
        if (line < 0) {
            throw new IllegalArgumentException();
        }
        needComposed();
        List<Integer> places = new ArrayList<>();
        int page = indexFirst;
        for (int left = countIndexLines(); left > 0; left -= 2 * depth) {
            int on = Math.min(left, 2 * depth);
            int inFirst = left > 2 * depth ? depth : (on + 1) / 2;
            for (int k = 0; k < on; k++) {
                places.add(10 * page + (k < inFirst ? 0 : 1));
            }
            page++;
        }
        return line < places.size() ? places.get(line) : -1;
    }

    int sheets() {
        needComposed();
        return (pages.size() + 3) / 4;
    }

    int untouched() {
        needComposed();
        if (printed == null) {
            return 0;
        }
        int untouched = 0;
        int most = Math.max(pages.size(), printed.pages.size());
        for (int first = 0; first < most; first += 4) {
            boolean isSame = true;
            for (int p = first; p < Math.min(first + 4, most); p++) {
                isSame &= p < pages.size() && p < printed.pages.size()
                    && isSame(pages.get(p), printed.pages.get(p));
            }
            untouched += isSame ? 1 : 0;
        }
        return untouched;
    }

    private static boolean isSame(Page a, Page b) {
        return a.kind == b.kind && a.rows.equals(b.rows) && a.texts.equals(b.texts)
            && a.floats.equals(b.floats) && a.notes.equals(b.notes) && a.grown == b.grown;
    }
}
