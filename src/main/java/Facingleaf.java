import java.util.Arrays;

/**
 * A maker of books. What its calls do is told in the document's promises; README.md tells how the
 * class is used.
 *
 * All rows and tables are made once, with the object: no call makes anything.
 */
public final class Facingleaf {

    private static final int CHAPTERS = 3;
    private static final int ITEMS = 10;
    private static final int WORDS = 20;
    private static final int CHAPTER_WORDS = 60;
    private static final int NOTE_LINES = 12;
    private static final int FLOATS = 4;
    /** How many labels there are, and how many terms. */
    private static final int NAMES = 10;
    private static final int BOOK_ITEMS = CHAPTERS * ITEMS;
    private static final int BOOK_WORDS = BOOK_ITEMS * WORDS;
    /** Words that the chapters can really have, by their limit. */
    private static final int MOST_WORDS = CHAPTERS * CHAPTER_WORDS;
    private static final int ROWS = CHAPTER_WORDS + ITEMS;
    private static final int PAGES = ROWS + FLOATS + NOTE_LINES;
    private static final int ROUNDS = 12;
    /** A word has at most so many pieces: the lines of its note, or one float. */
    private static final int PIECES = 4;
    private static final int TRIED_ROWS = 8;

    private static final int PLAIN = 0;
    private static final int LABEL = 1;
    private static final int NOTE = 2;
    private static final int FLOAT = 3;
    private static final int ENTRY = 4;
    private static final int MARGIN = 5;
    private static final int REFERENCE = 6;

    private static final int CONTENTS = 3;
    private static final int BLANK = 4;
    private static final int INDEX = 5;

    private static final int TEXT_NONE = 0;
    private static final int TEXT_HERE = 1;
    private static final int TEXT_OVERLEAF = 2;
    private static final int TEXT_PAGE = 10;

    /** A cost above all that pages can have. */
    private static final int NO_WAY = 1 << 28;

    private final Chapter[] chapters = new Chapter[CHAPTERS];
    private final Item draft = new Item();
    private final int[] also = new int[NAMES];
    private final Composer composer = new Composer();
    private final Margins margins = new Margins();
    private final Index index = new Index();
    private final Edition oneEdition = new Edition();
    private final Edition otherEdition = new Edition();
    private Edition now = oneEdition;
    private Edition printed = null;
    private int width = 16;
    private int depth = 10;
    private boolean isByPage = false;
    private boolean isMade = false;
    private int serials = 0;

    public Facingleaf() {
        for (int c = 0; c < CHAPTERS; c++) {
            chapters[c] = new Chapter();
        }
        Arrays.fill(also, -1);
    }

    // ---- the book

    public int setMeasures(int width, int depth) throws IllegalArgumentException {
        if (width < 8 || width > 30 || depth < 8 || depth > 14) {
            throw new IllegalArgumentException("no such measures");
        }
        int before = this.width;
        this.width = width;
        this.depth = depth;
        isMade = false;
        return before;
    }

    public boolean setByPage(boolean byPage) {
        boolean before = isByPage;
        isByPage = byPage;
        isMade = false;
        return before;
    }

    public int word(int width, int kind, int value)
            throws IllegalArgumentException, IllegalStateException {
        if (width < 1 || width > 8 || !isValue(kind, value)) {
            throw new IllegalArgumentException("no such word");
        }
        return draftWord(width, kind, value);
    }

    public int refer(int label) throws IllegalArgumentException, IllegalStateException {
        if (!isName(label)) {
            throw new IllegalArgumentException("no such label");
        }
        return draftWord(0, REFERENCE, label);
    }

    public int clear() {
        int before = draft.count;
        draft.count = 0;
        return before;
    }

    public int paragraph(int chapter) throws IndexOutOfBoundsException, IllegalStateException {
        checkChapter(chapter);
        if (chapters[chapter].count >= ITEMS || !isDraftFit(chapter, -1)) {
            throw new IllegalStateException("the draft is no paragraph for this chapter");
        }
        Item item = addItem(chapters[chapter]);
        item.takeWords(draft);
        draft.count = 0;
        return chapters[chapter].count - 1;
    }

    /** The level is looked at and not kept: no answer depends on it. */
    public int head(int chapter, int level, int need)
            throws IndexOutOfBoundsException, IllegalArgumentException, IllegalStateException {
        checkChapter(chapter);
        if (level < 0 || level > 1 || need < 1 || need > 3) {
            throw new IllegalArgumentException("no such head");
        }
        if (chapters[chapter].count >= ITEMS) {
            throw new IllegalStateException("the chapter is full");
        }
        Item item = addItem(chapters[chapter]);
        item.takeHead(need);
        return chapters[chapter].count - 1;
    }

    public int replace(int chapter, int item)
            throws IndexOutOfBoundsException, IllegalStateException {
        Item old = checkedItem(chapter, item);
        if (old.isHead || !isDraftFit(chapter, item)) {
            throw new IllegalStateException("the draft cannot replace this item");
        }
        int before = old.count;
        serials++;
        old.serial = serials;
        old.takeWords(draft);
        draft.count = 0;
        isMade = false;
        return before;
    }

    public int seeAlso(int term, int other)
            throws IndexOutOfBoundsException, IllegalArgumentException {
        checkTerm(term);
        if (other < -1 || other >= NAMES || other == term) {
            throw new IllegalArgumentException("no such term to see also");
        }
        int before = also[term];
        also[term] = other;
        isMade = false;
        return before;
    }

    public int compose(boolean keep) throws IllegalStateException {
        if (keep && printed == null) {
            throw new IllegalStateException("nothing was printed");
        }
        if (now == printed) {
            // What was printed stays as it is: the other edition is made anew.
            now = printed == oneEdition ? otherEdition : oneEdition;
        }
        now.begin(chapters, width, depth, isByPage);
        int rounds = composer.makeRounds(chapters, now, keep ? printed : null);
        isMade = rounds > 0;
        if (isMade) {
            margins.putAll(chapters, now);
            index.collect(chapters, now);
            index.setLines(also, now.depth);
            now.total = now.last + index.pageCount;
        }
        return rounds;
    }

    public int print() throws IllegalStateException {
        checkMade();
        printed = now;
        return now.total;
    }

    // ---- what there is; nothing from here on changes anything

    public boolean isComposed() {
        return isMade;
    }

    public int items(int chapter) throws IndexOutOfBoundsException {
        checkChapter(chapter);
        return chapters[chapter].count;
    }

    public int words(int chapter, int item) throws IndexOutOfBoundsException {
        return checkedItem(chapter, item).count;
    }

    // ---- lines and rows

    public int widthOf(int chapter, int item, int word)
            throws IndexOutOfBoundsException, IllegalStateException {
        checkWord(chapter, item, word);
        checkMade();
        return chapters[chapter].items[item].widthAt(word);
    }

    public int lines(int chapter, int item)
            throws IndexOutOfBoundsException, IllegalStateException {
        Item one = checkedItem(chapter, item);
        checkMade();
        return one.lineCount;
    }

    public int wordsTo(int chapter, int item, int line)
            throws IndexOutOfBoundsException, IllegalStateException {
        Item one = checkedItem(chapter, item);
        if (line < 0 || (isMade && line >= one.lineCount)) {
            throw new IndexOutOfBoundsException("no such line");
        }
        checkMade();
        return line < one.lineEnd.length ? one.lineEnd[line] : 0;
    }

    public int costOfLines(int chapter, int item)
            throws IndexOutOfBoundsException, IllegalStateException {
        Item one = checkedItem(chapter, item);
        checkMade();
        return one.lineCost;
    }

    public int rows(int chapter) throws IndexOutOfBoundsException, IllegalStateException {
        checkChapter(chapter);
        checkMade();
        return now.rows[chapter].count;
    }

    public int broken() throws IllegalStateException {
        checkMade();
        return composer.brokenCount;
    }

    // ---- pages

    public int pages() throws IllegalStateException {
        checkMade();
        return now.total;
    }

    public int kindOf(int page) throws IndexOutOfBoundsException, IllegalStateException {
        checkPage(page);
        checkMade();
        return now.kindAt(page);
    }

    public int pageOf(int chapter, boolean isLast)
            throws IndexOutOfBoundsException, IllegalStateException {
        checkChapter(chapter);
        checkMade();
        Pages made = now.pages[chapter];
        if (made.count == 0) {
            return -1;
        }
        return isLast ? made.first + made.count - 1 : made.first;
    }

    public int pageOfRow(int chapter, int row)
            throws IndexOutOfBoundsException, IllegalStateException {
        checkChapter(chapter);
        if (row < 0 || (isMade && row >= now.rows[chapter].count)) {
            throw new IndexOutOfBoundsException("no such row");
        }
        checkMade();
        return now.pages[chapter].pageWith(row);
    }

    public int onPage(int page, int what)
            throws IndexOutOfBoundsException, IllegalArgumentException, IllegalStateException {
        checkPage(page);
        if (what < 0 || what > 4) {
            throw new IllegalArgumentException("a page has no such thing");
        }
        checkMade();
        int kind = now.kindAt(page);
        return kind < CHAPTERS ? now.pages[kind].tell(page - now.pages[kind].first, what) : 0;
    }

    public int cost(int chapter) throws IndexOutOfBoundsException, IllegalStateException {
        checkChapter(chapter);
        checkMade();
        return now.pages[chapter].totalCost;
    }

    public int costByAll(int chapter) throws IndexOutOfBoundsException, IllegalStateException {
        checkChapter(chapter);
        checkMade();
        if (now.rows[chapter].count > TRIED_ROWS) {
            throw new IllegalStateException("too many rows for trying all ways");
        }
        return composer.maker.leastByAll(now.rows[chapter], now.depth);
    }

    public boolean isSettled() throws IllegalStateException {
        checkMade();
        return composer.isRingSettled;
    }

    // ---- references, notes, heads, margins

    public int textOf(int chapter, int item, int word)
            throws IndexOutOfBoundsException, IllegalStateException {
        checkWord(chapter, item, word);
        checkMade();
        return now.text[wordId(chapter, item, word)];
    }

    public int noteOf(int chapter, int item, int word)
            throws IndexOutOfBoundsException, IllegalStateException {
        checkWord(chapter, item, word);
        checkMade();
        return now.number[wordId(chapter, item, word)];
    }

    public int headOf(int page, boolean isLast)
            throws IndexOutOfBoundsException, IllegalStateException {
        checkPage(page);
        checkMade();
        int kind = now.kindAt(page);
        return kind < CHAPTERS ? now.runningHead(kind, page, isLast) : -1;
    }

    public int marginOf(int chapter, int item, int word)
            throws IndexOutOfBoundsException, IllegalStateException {
        checkWord(chapter, item, word);
        checkMade();
        return margins.put[wordId(chapter, item, word)];
    }

    // ---- the index and sheets

    public int ranges(int term) throws IndexOutOfBoundsException, IllegalStateException {
        checkTerm(term);
        checkMade();
        return index.count[term];
    }

    public int range(int term, int range, boolean isEnd)
            throws IndexOutOfBoundsException, IllegalArgumentException, IllegalStateException {
        checkTerm(term);
        if (range < 0) {
            throw new IllegalArgumentException("no such range");
        }
        checkMade();
        if (range >= index.count[term]) {
            return -1;
        }
        return isEnd ? index.last[term][range] : index.first[term][range];
    }

    public int indexLines() throws IllegalStateException {
        checkMade();
        return index.lineCount;
    }

    public int indexLine(int line) throws IllegalArgumentException, IllegalStateException {
        if (line < 0) {
            throw new IllegalArgumentException("no such line");
        }
        checkMade();
        if (line >= index.lineCount) {
            return -1;
        }
        return 10 * (now.last + 1 + index.pageWith(line)) + index.columnOf(line);
    }

    public int sheets() throws IllegalStateException {
        checkMade();
        return sheetsFor(now.total);
    }

    public int untouched() throws IllegalStateException {
        checkMade();
        if (printed == null) {
            return 0;
        }
        int most = sheetsFor(Math.max(now.total, printed.total));
        int count = 0;
        for (int sheet = 0; sheet < most; sheet++) {
            if (isUntouched(sheet)) {
                count++;
            }
        }
        return count;
    }

    // ---- what the calls above share

    private void checkChapter(int chapter) {
        if (chapter < 0 || chapter >= CHAPTERS) {
            throw new IndexOutOfBoundsException("no such chapter");
        }
    }

    private Item checkedItem(int chapter, int item) {
        checkChapter(chapter);
        if (item < 0 || item >= chapters[chapter].count) {
            throw new IndexOutOfBoundsException("no such item");
        }
        return chapters[chapter].items[item];
    }

    private void checkWord(int chapter, int item, int word) {
        Item one = checkedItem(chapter, item);
        if (word < 0 || word >= one.count) {
            throw new IndexOutOfBoundsException("no such word");
        }
    }

    private void checkTerm(int term) {
        if (!isName(term)) {
            throw new IndexOutOfBoundsException("no such term");
        }
    }

    /** Of a book that is not composed any page from 1 on may be. */
    private void checkPage(int page) {
        if (page < 1 || (isMade && page > now.total)) {
            throw new IndexOutOfBoundsException("no such page");
        }
    }

    private void checkMade() {
        if (!isMade) {
            throw new IllegalStateException("the book is not composed");
        }
    }

    private int draftWord(int width, int kind, int value) {
        if (draft.count >= WORDS) {
            throw new IllegalStateException("the draft is full");
        }
        draft.addWord(width, kind, value);
        return draft.count;
    }

    private Item addItem(Chapter chapter) {
        Item item = chapter.items[chapter.count];
        chapter.count++;
        serials++;
        item.serial = serials;
        isMade = false;
        return item;
    }

    /** Tells whether the draft can be in a chapter, in place of an item of it, or of none (-1). */
    private boolean isDraftFit(int chapter, int but) {
        Chapter other = chapters[chapter];
        return draft.count > 0
            && other.wordsBut(but) + draft.count <= CHAPTER_WORDS
            && other.sumBut(NOTE, but) + draft.sumOf(NOTE) <= NOTE_LINES
            && other.sumBut(FLOAT, but) + draft.sumOf(FLOAT) <= FLOATS
            && !hasLabelTwice(chapter, but);
    }

    private boolean hasLabelTwice(int chapter, int but) {
        int seen = 0;
        for (int c = 0; c < CHAPTERS; c++) {
            seen |= chapters[c].labelsBut(c == chapter ? but : -1);
        }
        for (int w = 0; w < draft.count; w++) {
            if (draft.kind[w] == LABEL) {
                int bit = 1 << draft.value[w];
                if ((seen & bit) != 0) {
                    return true;
                }
                seen |= bit;
            }
        }
        return false;
    }

    private boolean isUntouched(int sheet) {
        for (int page = 4 * sheet + 1; page <= 4 * sheet + 4; page++) {
            boolean isNow = page <= now.total;
            boolean wasThen = page <= printed.total;
            if (isNow != wasThen || (isNow && !now.hasSamePage(printed, page))) {
                return false;
            }
        }
        return true;
    }

    private static int sheetsFor(int pages) {
        return (pages + 3) / 4;
    }

    private static boolean isName(int name) {
        return name >= 0 && name < NAMES;
    }

    private static boolean isValue(int kind, int value) {
        switch (kind) {
            case PLAIN:
                return value == 0;
            case LABEL:
            case ENTRY:
                return isName(value);
            case NOTE:
                return value >= 1 && value <= 4;
            case FLOAT:
                return value >= 2 && value <= 5;
            case MARGIN:
                return value >= 1 && value <= 3;
            default:
                return false;
        }
    }

    private static int wordId(int chapter, int item, int word) {
        return (chapter * ITEMS + item) * WORDS + word;
    }

    private static int digitsOf(int number) {
        if (number < 10) {
            return 1;
        }
        return number < 100 ? 2 : 3;
    }

    private static int widthOfText(int text) {
        switch (text) {
            case TEXT_NONE:
                return 2;
            case TEXT_HERE:
                return 5;
            case TEXT_OVERLEAF:
                return 8;
            default:
                return 5 + digitsOf(text - TEXT_PAGE);
        }
    }

    /** A paragraph with its lines, or a head, a line without words; the draft is one too. */
    private static final class Item {
        private boolean isHead = false;
        private int need = 0;
        private int count = 0;
        /** Another one after each replacing, so that a replaced item is known by it. */
        private int serial = 0;
        private final int[] width = new int[WORDS];
        private final int[] kind = new int[WORDS];
        private final int[] value = new int[WORDS];
        /** What the round takes beyond the width: that of a reference, the digits of a number. */
        private final int[] taken = new int[WORDS];
        /** The width of lines by which it was broken last; 0 if it never was. */
        private int brokenBy = 0;
        private final int[] brokenWidth = new int[WORDS];
        private int lineCount = 0;
        private int lineCost = 0;
        private final int[] lineEnd = new int[WORDS];

        private void addWord(int width, int kind, int value) {
            if (count < WORDS) {
                this.width[count] = width;
                this.kind[count] = kind;
                this.value[count] = value;
                count++;
            }
        }

        private void takeWords(Item other) {
            isHead = false;
            count = 0;
            brokenBy = 0;
            Arrays.fill(taken, 0);
            for (int w = 0; w < other.count; w++) {
                addWord(other.width[w], other.kind[w], other.value[w]);
            }
        }

        private void takeHead(int need) {
            isHead = true;
            this.need = need;
            lineCount = 1;
        }

        private int widthAt(int word) {
            return width[word] + taken[word];
        }

        /** How many words of a kind there are; of notes, how many lines. */
        private int sumOf(int asked) {
            int sum = 0;
            for (int w = 0; w < count; w++) {
                if (kind[w] == asked) {
                    sum += asked == NOTE ? value[w] : 1;
                }
            }
            return sum;
        }

        private int labels() {
            int bits = 0;
            for (int w = 0; w < count; w++) {
                bits |= kind[w] == LABEL ? 1 << value[w] : 0;
            }
            return bits;
        }

        private boolean isBroken(int lineWidth) {
            if (brokenBy != lineWidth) {
                return false;
            }
            for (int w = 0; w < count; w++) {
                if (brokenWidth[w] != widthAt(w)) {
                    return false;
                }
            }
            return true;
        }
    }

    /** The items of a chapter; what is asked of all but one of them takes -1 for none. */
    private static final class Chapter {
        private final Item[] items = new Item[ITEMS];
        private int count = 0;

        private Chapter() {
            for (int i = 0; i < ITEMS; i++) {
                items[i] = new Item();
            }
        }

        private int wordsBut(int but) {
            int sum = 0;
            for (int i = 0; i < count; i++) {
                sum += i == but ? 0 : items[i].count;
            }
            return sum;
        }

        private int sumBut(int kind, int but) {
            int sum = 0;
            for (int i = 0; i < count; i++) {
                sum += i == but ? 0 : items[i].sumOf(kind);
            }
            return sum;
        }

        private int labelsBut(int but) {
            int bits = 0;
            for (int i = 0; i < count; i++) {
                bits |= i == but ? 0 : items[i].labels();
            }
            return bits;
        }

        private int heads() {
            int sum = 0;
            for (int i = 0; i < count; i++) {
                sum += items[i].isHead ? 1 : 0;
            }
            return sum;
        }
    }

    /** Breaks paragraphs: for each word on, the best way of breaking from it to the end. */
    private static final class Breaker {
        private final int[] cost = new int[WORDS + 1];
        private final int[] lines = new int[WORDS + 1];
        private final int[] end = new int[WORDS + 1];

        /** Answers whether the paragraph had to be broken anew. */
        private boolean renew(Item item, int lineWidth) {
            if (item.isHead || item.isBroken(lineWidth)) {
                return false;
            }
            cost[item.count] = 0;
            lines[item.count] = 0;
            for (int from = item.count - 1; from >= 0; from--) {
                chooseLine(item, from, lineWidth);
            }
            writeLines(item);
            for (int w = 0; w < item.count; w++) {
                item.brokenWidth[w] = item.widthAt(w);
            }
            item.brokenBy = lineWidth;
            return true;
        }

        /** Longer lines come later, so that of equal ways the one with more words stays. */
        private void chooseLine(Item item, int from, int lineWidth) {
            int length = -1;
            cost[from] = NO_WAY;
            for (int to = from + 1; to <= item.count; to++) {
                length += 1 + item.widthAt(to - 1);
                if (length > lineWidth && to > from + 1) {
                    break;
                }
                int sum = cost[to] + costOfLine(lineWidth - length, to == item.count);
                if (sum < cost[from] || (sum == cost[from] && lines[to] + 1 <= lines[from])) {
                    cost[from] = sum;
                    lines[from] = lines[to] + 1;
                    end[from] = to;
                }
            }
        }

        private static int costOfLine(int lack, boolean isLast) {
            if (lack < 0) {
                return -100 * lack;
            }
            return isLast ? 0 : lack * lack;
        }

        private void writeLines(Item item) {
            item.lineCount = 0;
            item.lineCost = cost[0];
            int from = 0;
            while (from < item.count && item.lineCount < WORDS) {
                from = end[from];
                item.lineEnd[item.lineCount] = from;
                item.lineCount++;
            }
        }
    }

    /**
     * The rows of a chapter. What is counted up to a row stands at the number of rows up to it, so
     * that what a page has is a difference of two.
     */
    private static final class Rows {
        private int count = 0;
        private final int[] item = new int[ROWS];
        private final int[] from = new int[ROWS];
        private final int[] to = new int[ROWS];
        private final int[] need = new int[ROWS];
        private final boolean[] isFirstOfMore = new boolean[ROWS];
        private final boolean[] isLastOfMore = new boolean[ROWS];
        private final int[] blanksTo = new int[ROWS + 1];
        private final int[] floatsTo = new int[ROWS + 1];
        private final int[] notesTo = new int[ROWS + 1];
        /** So many lines of notes must be shown by a page that ends here. */
        private final int[] leastNotesTo = new int[ROWS + 1];
        /** The last head that has too few rows below it on a page that ends here; -1 for none. */
        private final int[] lateHead = new int[ROWS + 1];
        private int floats = 0;
        /** By float: of which item and word; by line of a note, also which line of the note. */
        private final int[] floatPiece = new int[FLOATS];
        private final int[] notePiece = new int[NOTE_LINES];
        private final int[] highTo = new int[FLOATS + 1];
        private int notes = 0;
        private int leastNotes = 0;

        private void collect(Chapter chapter) {
            count = 0;
            floats = 0;
            notes = 0;
            leastNotes = 0;
            for (int i = 0; i < chapter.count; i++) {
                Item one = chapter.items[i];
                for (int line = 0; line < one.lineCount && count < ROWS; line++) {
                    addRow(one, i, line);
                }
            }
            for (int end = 1; end <= count; end++) {
                lateHead[end] = lateHeadBy(end);
            }
        }

        private void addRow(Item one, int number, int line) {
            int row = count;
            count++;
            item[row] = number;
            from[row] = one.isHead || line == 0 ? 0 : one.lineEnd[line - 1];
            to[row] = one.isHead ? 0 : one.lineEnd[line];
            need[row] = one.isHead ? one.need : 0;
            isFirstOfMore[row] = one.lineCount > 1 && line == 0;
            isLastOfMore[row] = one.lineCount > 1 && line == one.lineCount - 1;
            for (int w = from[row]; w < to[row]; w++) {
                addWord(one, number, w);
            }
            blanksTo[count] = blanksTo[row] + (line == 0 && number > 0 ? 1 : 0);
            floatsTo[count] = floats;
            notesTo[count] = notes;
            leastNotesTo[count] = leastNotes;
        }

        private void addWord(Item one, int number, int word) {
            int value = one.value[word];
            int piece = (number * WORDS + word) * PIECES;
            if (one.kind[word] == FLOAT && floats < FLOATS) {
                floatPiece[floats] = piece;
                highTo[floats + 1] = highTo[floats] + value;
                floats++;
            } else if (one.kind[word] == NOTE) {
                leastNotes = notes + 1;
                for (int line = 0; line < value && notes < NOTE_LINES; line++) {
                    notePiece[notes] = piece + line;
                    notes++;
                }
            }
        }

        private int lateHeadBy(int end) {
            for (int row = end - 1; row >= 0 && row >= end - 3; row--) {
                if (need[row] > end - 1 - row) {
                    return row;
                }
            }
            return -1;
        }

        private boolean hasBlankAhead(int row) {
            return blanksTo[row + 1] > blanksTo[row];
        }

        private int floatHigh(int number) {
            return highTo[number + 1] - highTo[number];
        }
    }

    /** The pages of a chapter: each by what there is up to its end. */
    private static final class Pages {
        private int first = 0;
        private int count = 0;
        private int withRows = 0;
        private int totalCost = 0;
        private final int[] rowsTo = new int[PAGES];
        private final int[] floatsTo = new int[PAGES];
        private final int[] notesTo = new int[PAGES];
        private final int[] grown = new int[PAGES];
        private final int[] filled = new int[PAGES];

        private void begin(int first) {
            this.first = first;
            count = 0;
            withRows = 0;
            totalCost = 0;
        }

        private void addPage(int rows, int floats, int notes, int grows, int fills) {
            if (count < PAGES) {
                withRows += rows > rowsBefore(count) ? 1 : 0;
                rowsTo[count] = rows;
                floatsTo[count] = floats;
                notesTo[count] = notes;
                grown[count] = grows;
                filled[count] = fills;
                count++;
            }
        }

        private int rowsBefore(int page) {
            return page > 0 ? rowsTo[page - 1] : 0;
        }

        private int floatsBefore(int page) {
            return page > 0 ? floatsTo[page - 1] : 0;
        }

        private int notesBefore(int page) {
            return page > 0 ? notesTo[page - 1] : 0;
        }

        private int pageWith(int row) {
            for (int k = 0; k < count; k++) {
                if (row < rowsTo[k]) {
                    return first + k;
                }
            }
            return -1;
        }

        private int tell(int page, int what) {
            switch (what) {
                case 0:
                    return rowsTo[page] - rowsBefore(page);
                case 1:
                    return floatsTo[page] - floatsBefore(page);
                case 2:
                    return notesTo[page] - notesBefore(page);
                case 3:
                    return grown[page];
                default:
                    return filled[page];
            }
        }
    }

    /**
     * Makes the pages of a chapter with the least cost.
     *
     * A place is where a page can begin: a row, and how many floats and lines of notes of the rows
     * ahead of it wait. Of a note of these one line is shown at least, so that at most three wait.
     * What is ahead of the place counts also: a page of the chapter on the left that is filled so
     * far (1 to 14), one on the right (RIGHT), or none (FIRST).
     */
    private static final class PageMaker {
        private static final int RIGHT = 0;
        private static final int FIRST = 15;
        private static final int AHEADS = 16;
        private static final int WAITING_NOTES = 4;
        private static final int WAITING_FLOATS = FLOATS + 1;
        private static final int ROW_PLACES = WAITING_FLOATS * WAITING_NOTES;
        private static final int PLACES = (ROWS + 1) * ROW_PLACES;
        /** A choice is a row and how many floats, of which there are fewer than this. */
        private static final int CHOICES = 4;

        /** By place, a bit for each that can be ahead of it. */
        private final int[] reached = new int[PLACES];
        private final int[] least = new int[PLACES * AHEADS];
        private final int[] choice = new int[PLACES * AHEADS];
        private Rows rows = new Rows();
        private int depth = 0;
        // of the page that was tried last
        private int lines = 0;
        private int grown = 0;
        private int filled = 0;
        private int cost = 0;
        private boolean isVeryLast = false;
        // of the page without rows that was filled last
        private int bareFloats = 0;
        private int bareLines = 0;
        private int bareFilled = 0;

        private void begin(Rows rows, int depth) {
            this.rows = rows;
            this.depth = depth;
        }

        /** Tries the rows from one up to another with some more floats; false if it is no page. */
        private boolean isPage(int from, int to, int floats, int more, int notes) {
            int blanks = rows.blanksTo[to] - rows.blanksTo[from + 1];
            int high = to - from + blanks + rows.highTo[floats + more] - rows.highTo[floats];
            if (high > depth || (to < rows.count && rows.lateHead[to] >= from)) {
                return false;
            }
            int waiting = rows.notesTo[to] - notes;
            // A row above the lines is needed as well.
            int room = depth - high - 1;
            lines = room < 1 ? 0 : waiting < room ? waiting : room;
            if (notes + lines < rows.leastNotesTo[to]) {
                return false;
            }
            int late = rows.floatsTo[to] - floats - more;
            cost = 3 * late + 2 * (waiting - lines);
            cost += (rows.isLastOfMore[from] ? 15 : 0) + (rows.isFirstOfMore[to - 1] ? 15 : 0);
            filled = high + (lines > 0 ? lines + 1 : 0);
            isVeryLast = to == rows.count && late == 0 && lines == waiting;
            int lack = depth - filled;
            grown = isVeryLast ? 0 : lack < blanks ? lack : blanks;
            filled += grown;
            lack -= grown;
            cost += isVeryLast ? 0 : grown + lack * lack;
            return true;
        }

        private int mostFloats(int to, int floats) {
            int waiting = rows.floatsTo[to] - floats;
            return waiting < 2 ? waiting : 2;
        }

        /** What the page that was tried last costs more by what is ahead of it. */
        private int costBehind(int ahead) {
            if (ahead == RIGHT || ahead == FIRST || isVeryLast) {
                return 0;
            }
            return filled < ahead ? ahead - filled : filled - ahead;
        }

        private int aheadOfNext(int ahead) {
            return ahead == RIGHT ? filled : RIGHT;
        }

        private int placeAt(int row, int floats, int notes) {
            int waitingFloats = rows.floatsTo[row] - floats;
            int waitingNotes = rows.notesTo[row] - notes;
            return row * ROW_PLACES + waitingFloats * WAITING_NOTES + waitingNotes;
        }

        private int floatsAt(int place) {
            return rows.floatsTo[place / ROW_PLACES] - place % ROW_PLACES / WAITING_NOTES;
        }

        private int notesAt(int place) {
            return rows.notesTo[place / ROW_PLACES] - place % WAITING_NOTES;
        }

        private void fillBare(int floats, int notes) {
            bareFloats = floats;
            while (bareFloats < rows.floats
                    && rows.highTo[bareFloats + 1] - rows.highTo[floats] <= depth) {
                bareFloats++;
            }
            int high = rows.highTo[bareFloats] - rows.highTo[floats];
            int waiting = rows.notes - notes;
            int room = depth - high - 1;
            bareLines = room < 1 ? 0 : waiting < room ? waiting : room;
            bareFilled = high + (bareLines > 0 ? bareLines + 1 : 0);
        }

        private int barePages(int floats, int notes) {
            int pages = 0;
            while (pages < FLOATS + NOTE_LINES && (floats < rows.floats || notes < rows.notes)) {
                fillBare(floats, notes);
                floats = bareFloats;
                notes += bareLines;
                pages++;
            }
            return pages;
        }

        /** Adds a page up to a row with some more floats; false if it is none. */
        private boolean hasAdded(Pages pages, int to, int more) {
            int from = pages.rowsBefore(pages.count);
            int floats = pages.floatsBefore(pages.count);
            int notes = pages.notesBefore(pages.count);
            if (to <= from || to > rows.count || more < 0 || more > mostFloats(to, floats)
                    || !isPage(from, to, floats, more, notes)) {
                return false;
            }
            pages.totalCost += cost + costBehind(aheadOf(pages));
            pages.addPage(to, floats + more, notes + lines, grown, filled);
            return true;
        }

        private static int aheadOf(Pages pages) {
            if (pages.count == 0) {
                return FIRST;
            }
            return pages.count % 2 == 0 ? pages.filled[pages.count - 1] : RIGHT;
        }

        /** Makes the pages behind those that there are already; false if there is no way. */
        private boolean hasMadeRest(Pages pages) {
            int start = pages.rowsBefore(pages.count);
            int place = placeAt(start, pages.floatsBefore(pages.count),
                pages.notesBefore(pages.count));
            int ahead = aheadOf(pages);
            Arrays.fill(reached, 0);
            reached[place] = 1 << ahead;
            for (int p = start * ROW_PLACES; p < rows.count * ROW_PLACES; p++) {
                if (reached[p] != 0) {
                    reachBehind(p);
                }
            }
            weighEnds();
            for (int p = rows.count * ROW_PLACES - 1; p >= start * ROW_PLACES; p--) {
                if (reached[p] != 0) {
                    weigh(p);
                }
            }
            if (least[place * AHEADS + ahead] >= NO_WAY) {
                return false;
            }
            addChosen(pages);
            addBare(pages);
            return true;
        }

        private void reachBehind(int place) {
            int from = place / ROW_PLACES;
            int floats = floatsAt(place);
            int notes = notesAt(place);
            boolean isRight = (reached[place] & ~(1 << RIGHT)) != 0;
            boolean isLeft = (reached[place] & (1 << RIGHT)) != 0;
            for (int to = from + 1; to < rows.count && to <= from + depth; to++) {
                for (int more = mostFloats(to, floats); more >= 0; more--) {
                    if (isPage(from, to, floats, more, notes)) {
                        int next = placeAt(to, floats + more, notes + lines);
                        reached[next] |= isRight ? 1 << RIGHT : 0;
                        reached[next] |= isLeft ? 1 << filled : 0;
                    }
                }
            }
        }

        /** Behind the last row it is all one what is ahead. */
        private void weighEnds() {
            for (int place = rows.count * ROW_PLACES; place < PLACES
                    && place < (rows.count + 1) * ROW_PLACES; place++) {
                int floats = floatsAt(place);
                int notes = notesAt(place);
                if (floats >= 0 && notes >= 0) {
                    Arrays.fill(least, place * AHEADS, (place + 1) * AHEADS,
                        5 * barePages(floats, notes));
                }
            }
        }

        /** More rows come first, then more floats: of equal ways these stay. */
        private void weigh(int place) {
            int from = place / ROW_PLACES;
            int floats = floatsAt(place);
            int notes = notesAt(place);
            Arrays.fill(least, place * AHEADS, (place + 1) * AHEADS, NO_WAY);
            int most = from + depth < rows.count ? from + depth : rows.count;
            for (int to = most; to > from; to--) {
                for (int more = mostFloats(to, floats); more >= 0; more--) {
                    if (isPage(from, to, floats, more, notes)) {
                        int next = placeAt(to, floats + more, notes + lines);
                        weighPage(place, next, to * CHOICES + more);
                    }
                }
            }
        }

        /** Weighs the page that was tried last, by each that can be ahead of it. */
        private void weighPage(int place, int next, int way) {
            int aheads = reached[place];
            if ((aheads & (1 << RIGHT)) != 0) {
                weighWay(place * AHEADS + RIGHT, cost + least[next * AHEADS + filled], way);
            }
            int sum = cost + least[next * AHEADS + RIGHT];
            int left = aheads >> 1;
            for (int ahead = 1; ahead < AHEADS && left != 0; ahead++) {
                if ((left & 1) != 0) {
                    weighWay(place * AHEADS + ahead, sum + costBehind(ahead), way);
                }
                left >>= 1;
            }
        }

        private void weighWay(int at, int sum, int way) {
            if (sum < least[at]) {
                least[at] = sum;
                choice[at] = way;
            }
        }

        private void addChosen(Pages pages) {
            boolean hasMore = true;
            for (int guard = 0; guard < ROWS && hasMore; guard++) {
                int place = placeAt(pages.rowsBefore(pages.count),
                    pages.floatsBefore(pages.count), pages.notesBefore(pages.count));
                int way = choice[place * AHEADS + aheadOf(pages)];
                hasMore = hasAdded(pages, way / CHOICES, way % CHOICES)
                    && pages.rowsBefore(pages.count) < rows.count;
            }
        }

        private void addBare(Pages pages) {
            int floats = pages.floatsBefore(pages.count);
            int notes = pages.notesBefore(pages.count);
            for (int left = barePages(floats, notes); left > 0; left--) {
                fillBare(floats, notes);
                floats = bareFloats;
                notes += bareLines;
                pages.addPage(rows.count, floats, notes, 0, bareFilled);
                pages.totalCost += 5;
            }
        }

        /** The least cost of a chapter of few rows, found by trying all ways. */
        private int leastByAll(Rows rows, int depth) {
            begin(rows, depth);
            return rows.count == 0 ? 0 : leastFrom(this, 0, 0, 0, FIRST);
        }

        /** Each level begins at a later row, of which there are few. */
        private static int leastFrom(PageMaker maker, int from, int floats, int notes, int ahead) {
            if (from >= maker.rows.count) {
                return 5 * maker.barePages(floats, notes);
            }
            if (from >= TRIED_ROWS) {
                return NO_WAY;
            }
            int least = NO_WAY;
            for (int to = from + 1; to <= maker.rows.count; to++) {
                for (int more = maker.mostFloats(to, floats); more >= 0; more--) {
                    if (maker.isPage(from, to, floats, more, notes)) {
                        int sum = maker.cost + maker.costBehind(ahead);
                        sum += leastFrom(maker, to, floats + more, notes + maker.lines,
                            maker.aheadOfNext(ahead));
                        least = sum < least ? sum : least;
                    }
                }
            }
            return least;
        }
    }

    /** What a composing makes, and what is kept of it when it is printed. */
    private static final class Edition {
        private int width = 0;
        private int depth = 0;
        private boolean isByPage = false;
        /** How many pages the contents have. */
        private int contents = 0;
        /** The last page ahead of the index. */
        private int last = 0;
        private int total = 0;
        private final Rows[] rows = new Rows[CHAPTERS];
        private final Pages[] pages = new Pages[CHAPTERS];
        private final int[] serial = new int[BOOK_ITEMS];
        private final int[] pageOfWord = new int[BOOK_WORDS];
        private final int[] text = new int[BOOK_WORDS];
        private final int[] number = new int[BOOK_WORDS];

        private Edition() {
            for (int c = 0; c < CHAPTERS; c++) {
                rows[c] = new Rows();
                pages[c] = new Pages();
            }
        }

        private void begin(Chapter[] chapters, int width, int depth, boolean isByPage) {
            this.width = width;
            this.depth = depth;
            this.isByPage = isByPage;
            int heads = 0;
            for (int c = 0; c < CHAPTERS; c++) {
                heads += chapters[c].heads();
                for (int i = 0; i < ITEMS; i++) {
                    boolean isThere = i < chapters[c].count;
                    serial[c * ITEMS + i] = isThere ? chapters[c].items[i].serial : 0;
                }
            }
            contents = depth > 0 ? (heads + depth - 1) / depth : 0;
            contents += contents % 2;
        }

        private int kindAt(int page) {
            if (page <= contents) {
                return CONTENTS;
            }
            for (int c = 0; c < CHAPTERS; c++) {
                int behind = pages[c].first + pages[c].count;
                if (page >= pages[c].first && page < behind) {
                    return c;
                }
            }
            return page > last ? INDEX : BLANK;
        }

        private int runningHead(int chapter, int page, boolean isLast) {
            Rows all = rows[chapter];
            int k = page - pages[chapter].first;
            int from = pages[chapter].rowsBefore(k);
            int found = -1;
            for (int row = from; row < pages[chapter].rowsTo[k]; row++) {
                if (all.need[row] > 0 && (isLast || found < 0)) {
                    found = row;
                }
            }
            for (int row = from - 1; row >= 0 && found < 0; row--) {
                if (all.need[row] > 0) {
                    found = row;
                }
            }
            return found < 0 ? -1 : all.item[found];
        }

        private boolean hasSameItem(Edition other, int chapter, int item) {
            return serial[chapter * ITEMS + item] == other.serial[chapter * ITEMS + item];
        }

        /** Tells whether a row has the same words, of an item that was not replaced, as another. */
        private boolean hasSameRow(Edition other, int chapter, int row, int otherRow) {
            Rows mine = rows[chapter];
            Rows others = other.rows[chapter];
            return row < mine.count && otherRow < others.count
                && mine.item[row] == others.item[otherRow]
                && mine.from[row] == others.from[otherRow]
                && mine.to[row] == others.to[otherRow]
                && hasSameItem(other, chapter, mine.item[row]);
        }

        private boolean hasSamePage(Edition other, int page) {
            int kind = kindAt(page);
            if (kind != other.kindAt(page)) {
                return false;
            }
            if (kind >= CHAPTERS) {
                return true;
            }
            int k = page - pages[kind].first;
            int j = page - other.pages[kind].first;
            return pages[kind].grown[k] == other.pages[kind].grown[j]
                && hasSameRows(other, kind, k, j)
                && hasSameFloats(other, kind, k, j)
                && hasSameNotes(other, kind, k, j);
        }

        private boolean hasSameRows(Edition other, int chapter, int k, int j) {
            int from = pages[chapter].rowsBefore(k);
            int otherFrom = other.pages[chapter].rowsBefore(j);
            int count = pages[chapter].rowsTo[k] - from;
            if (count != other.pages[chapter].rowsTo[j] - otherFrom) {
                return false;
            }
            for (int r = 0; r < count; r++) {
                if (!hasSameRow(other, chapter, from + r, otherFrom + r)
                        || !hasSameTexts(other, chapter, from + r)) {
                    return false;
                }
            }
            return true;
        }

        /** Of a row that has the same words. */
        private boolean hasSameTexts(Edition other, int chapter, int row) {
            Rows mine = rows[chapter];
            for (int w = mine.from[row]; w < mine.to[row]; w++) {
                int id = wordId(chapter, mine.item[row], w);
                if (text[id] != other.text[id] || number[id] != other.number[id]) {
                    return false;
                }
            }
            return true;
        }

        private boolean hasSameFloats(Edition other, int chapter, int k, int j) {
            int from = pages[chapter].floatsBefore(k);
            int otherFrom = other.pages[chapter].floatsBefore(j);
            int count = pages[chapter].floatsTo[k] - from;
            boolean isAlike = count == other.pages[chapter].floatsTo[j] - otherFrom;
            for (int f = 0; f < count && isAlike; f++) {
                isAlike = hasSamePiece(other, chapter, rows[chapter].floatPiece[from + f],
                    other.rows[chapter].floatPiece[otherFrom + f]);
            }
            return isAlike;
        }

        private boolean hasSameNotes(Edition other, int chapter, int k, int j) {
            int from = pages[chapter].notesBefore(k);
            int otherFrom = other.pages[chapter].notesBefore(j);
            int count = pages[chapter].notesTo[k] - from;
            boolean isAlike = count == other.pages[chapter].notesTo[j] - otherFrom;
            for (int n = 0; n < count && isAlike; n++) {
                isAlike = hasSamePiece(other, chapter, rows[chapter].notePiece[from + n],
                    other.rows[chapter].notePiece[otherFrom + n]);
            }
            return isAlike;
        }

        /** The float or the note of an item that was replaced is another one. */
        private boolean hasSamePiece(Edition other, int chapter, int piece, int otherPiece) {
            return piece == otherPiece && hasSameItem(other, chapter, piece / PIECES / WORDS);
        }
    }

    /** Makes rounds until the widths that a round took are those that its pages ask for. */
    private static final class Composer {
        private final Breaker breaker = new Breaker();
        private final PageMaker maker = new PageMaker();
        /** The references and the words with notes, whose widths depend on pages. */
        private final int[] changing = new int[MOST_WORDS];
        private int changingCount = 0;
        /** By round and changing word; behind the last round that which it found. */
        private final int[][] taken = new int[ROUNDS + 1][MOST_WORDS];
        private final int[] labelPage = new int[NAMES];
        private Chapter[] chapters = new Chapter[0];
        private Edition now = null;
        private Edition kept = null;
        private int brokenCount = 0;
        private boolean isRingSettled = false;

        /** Answers how many rounds were made; -1 if pages could not be made. */
        private int makeRounds(Chapter[] chapters, Edition now, Edition kept) {
            this.chapters = chapters;
            this.now = now;
            this.kept = kept;
            brokenCount = 0;
            isRingSettled = false;
            listChanging();
            int ring = -1;
            int rounds = 0;
            while (rounds < ROUNDS && ring < 0) {
                if (!hasMadeRound(rounds)) {
                    return -1;
                }
                findWidths(taken[rounds + 1]);
                ring = roundThatTook(taken[rounds + 1], rounds);
                if (ring == rounds) {
                    return rounds + 1;
                }
                rounds++;
            }
            takeWidest(ring < 0 ? 0 : ring, rounds);
            isRingSettled = hasMadeRound(rounds);
            return isRingSettled ? rounds + 1 : -1;
        }

        /** Lets a round take the widest widths of the rounds from one on up to it. */
        private void takeWidest(int from, int round) {
            for (int v = 0; v < changingCount; v++) {
                int widest = 0;
                for (int r = from; r < round; r++) {
                    widest = Math.max(widest, taken[r][v]);
                }
                taken[round][v] = widest;
            }
        }

        private Item itemOf(int id) {
            return chapters[id / WORDS / ITEMS].items[id / WORDS % ITEMS];
        }

        private void listChanging() {
            changingCount = 0;
            for (int c = 0; c < CHAPTERS; c++) {
                int notes = 0;
                for (int i = 0; i < chapters[c].count; i++) {
                    Item item = chapters[c].items[i];
                    for (int w = 0; w < item.count; w++) {
                        if (item.kind[w] == NOTE) {
                            notes++;
                            listWord(wordId(c, i, w), now.isByPage ? 1 : digitsOf(notes));
                        } else if (item.kind[w] == REFERENCE) {
                            listWord(wordId(c, i, w), widthOfText(TEXT_NONE));
                        }
                    }
                }
            }
        }

        private void listWord(int id, int takenFirst) {
            if (changingCount < MOST_WORDS) {
                changing[changingCount] = id;
                taken[0][changingCount] = takenFirst;
                changingCount++;
            }
        }

        private boolean hasMadeRound(int round) {
            for (int v = 0; v < changingCount; v++) {
                itemOf(changing[v]).taken[changing[v] % WORDS] = taken[round][v];
            }
            int renewed = breakParagraphs();
            now.last = now.contents;
            for (int c = 0; c < CHAPTERS; c++) {
                int first = chapters[c].count > 0 ? now.last + 1 + now.last % 2 : 0;
                // Pages of rows that are as in the round before are the same, if they begin there.
                boolean isNew = round == 0 || (renewed >> c & 1) != 0
                    || now.pages[c].first != first;
                if (isNew) {
                    beginChapter(c, first);
                }
                if (isNew && first > 0 && !maker.hasMadeRest(now.pages[c])) {
                    return false;
                }
                now.last = first > 0 ? first + now.pages[c].count - 1 : now.last;
            }
            readPages();
            return true;
        }

        /** Answers a bit for each chapter of which a paragraph was broken anew. */
        private int breakParagraphs() {
            int renewed = 0;
            for (int c = 0; c < CHAPTERS; c++) {
                for (int i = 0; i < chapters[c].count; i++) {
                    if (breaker.renew(chapters[c].items[i], now.width)) {
                        renewed |= 1 << c;
                        brokenCount++;
                    }
                }
            }
            return renewed;
        }

        private void beginChapter(int c, int first) {
            now.rows[c].collect(chapters[c]);
            now.pages[c].begin(first);
            maker.begin(now.rows[c], now.depth);
            keepPages(c);
        }

        private void keepPages(int c) {
            if (kept == null || kept.width != now.width || kept.depth != now.depth
                    || kept.pages[c].first != now.pages[c].first) {
                return;
            }
            Pages old = kept.pages[c];
            int row = 0;
            for (int k = 0; k < old.withRows - 1; k++) {
                for (; row < old.rowsTo[k]; row++) {
                    if (!now.hasSameRow(kept, c, row, row)) {
                        return;
                    }
                }
                if (!maker.hasAdded(now.pages[c], old.rowsTo[k], old.tell(k, 1))) {
                    return;
                }
            }
        }

        private void readPages() {
            Arrays.fill(labelPage, 0);
            for (int c = 0; c < CHAPTERS; c++) {
                int notes = 0;
                for (int k = 0; k < now.pages[c].withRows; k++) {
                    notes = readPage(c, k, now.isByPage ? 0 : notes);
                }
            }
            for (int v = 0; v < changingCount; v++) {
                int id = changing[v];
                Item item = itemOf(id);
                if (item.kind[id % WORDS] == REFERENCE) {
                    int page = labelPage[item.value[id % WORDS]];
                    now.text[id] = textFor(now.pageOfWord[id], page);
                }
            }
        }

        /** Answers how many notes there are then. */
        private int readPage(int c, int k, int notes) {
            Rows rows = now.rows[c];
            int page = now.pages[c].first + k;
            int count = notes;
            for (int row = now.pages[c].rowsBefore(k); row < now.pages[c].rowsTo[k]; row++) {
                Item item = chapters[c].items[rows.item[row]];
                for (int w = rows.from[row]; w < rows.to[row]; w++) {
                    int id = wordId(c, rows.item[row], w);
                    count += item.kind[w] == NOTE ? 1 : 0;
                    now.pageOfWord[id] = page;
                    now.number[id] = item.kind[w] == NOTE ? count : 0;
                    now.text[id] = -1;
                    if (item.kind[w] == LABEL) {
                        labelPage[item.value[w]] = page;
                    }
                }
            }
            return count;
        }

        private static int textFor(int page, int labelPage) {
            if (labelPage == 0) {
                return TEXT_NONE;
            }
            if (labelPage == page) {
                return TEXT_HERE;
            }
            boolean isOverleaf = labelPage == page + 1 && page % 2 == 1;
            return isOverleaf ? TEXT_OVERLEAF : TEXT_PAGE + labelPage;
        }

        private void findWidths(int[] found) {
            for (int v = 0; v < changingCount; v++) {
                int id = changing[v];
                boolean isNote = itemOf(id).kind[id % WORDS] == NOTE;
                found[v] = isNote ? digitsOf(now.number[id]) : widthOfText(now.text[id]);
            }
        }

        /** The first round up to one that took just these widths; -1 if there is none. */
        private int roundThatTook(int[] widths, int upTo) {
            for (int round = 0; round <= upTo; round++) {
                int same = 0;
                while (same < changingCount && taken[round][same] == widths[same]) {
                    same++;
                }
                if (same == changingCount) {
                    return round;
                }
            }
            return -1;
        }
    }

    /** Puts margins beside the pages. */
    private static final class Margins {
        /** By word: 100 times the page, and the place; -1 for none. */
        private final int[] put = new int[BOOK_WORDS];
        /** The words whose margins went over the fold, in their order. */
        private final int[] over = new int[CHAPTER_WORDS];
        private int overCount = 0;
        private int page = 0;
        private int depth = 0;
        /** Where the margin that was put last ends. */
        private int end = 0;

        private void putAll(Chapter[] chapters, Edition now) {
            Arrays.fill(put, -1);
            depth = now.depth;
            for (int c = 0; c < CHAPTERS; c++) {
                overCount = 0;
                for (int k = 0; k < now.pages[c].withRows; k++) {
                    page = now.pages[c].first + k;
                    end = 0;
                    putOver(chapters[c]);
                    putPage(chapters[c], c, now.rows[c], now.pages[c], k);
                }
            }
        }

        private void putOver(Chapter chapter) {
            int before = overCount;
            overCount = 0;
            for (int m = 0; m < before; m++) {
                int id = over[m];
                putOne(id, chapter.items[id / WORDS % ITEMS].value[id % WORDS], 0);
            }
        }

        private void putPage(Chapter chapter, int c, Rows rows, Pages pages, int k) {
            int from = pages.rowsBefore(k);
            int top = pages.floatsBefore(k);
            int place = pages.floatsTo[k] > top ? rows.floatHigh(top) : 0;
            int grows = pages.grown[k];
            for (int row = from; row < pages.rowsTo[k]; row++) {
                if (row > from && rows.hasBlankAhead(row)) {
                    place += grows > 0 ? 2 : 1;
                    grows--;
                }
                Item item = chapter.items[rows.item[row]];
                for (int w = rows.from[row]; w < rows.to[row]; w++) {
                    if (item.kind[w] == MARGIN) {
                        putOne(wordId(c, rows.item[row], w), item.value[w], place);
                    }
                }
                place++;
            }
        }

        private void putOne(int id, int high, int wanted) {
            int place = Math.min(Math.max(wanted, end), depth - high);
            if (place >= end) {
                put[id] = 100 * page + place;
                end = place + high;
            } else if (overCount < CHAPTER_WORDS) {
                over[overCount] = id;
                overCount++;
            }
        }
    }

    /** The ranges of the terms, and the lines of the index. */
    private static final class Index {
        private static final int IN_LINE = 3;

        private final int[] count = new int[NAMES];
        private final int[][] first = new int[NAMES][MOST_WORDS];
        private final int[][] last = new int[NAMES][MOST_WORDS];
        private int lineCount = 0;
        private int pageCount = 0;
        private int depth = 0;

        /** The pages of words never go back, so that each is behind those that there are. */
        private void collect(Chapter[] chapters, Edition now) {
            Arrays.fill(count, 0);
            for (int c = 0; c < CHAPTERS; c++) {
                for (int i = 0; i < chapters[c].count; i++) {
                    Item item = chapters[c].items[i];
                    for (int w = 0; w < item.count; w++) {
                        if (item.kind[w] == ENTRY) {
                            addEntry(item.value[w], now.pageOfWord[wordId(c, i, w)]);
                        }
                    }
                }
            }
        }

        private void addEntry(int term, int page) {
            int before = count[term] - 1;
            if (before >= 0 && page <= last[term][before] + 1) {
                last[term][before] = page;
            } else if (count[term] < MOST_WORDS) {
                first[term][count[term]] = page;
                last[term][count[term]] = page;
                count[term]++;
            }
        }

        private void setLines(int[] also, int depth) {
            this.depth = depth;
            lineCount = 0;
            for (int t = 0; t < NAMES; t++) {
                lineCount += (count[t] + IN_LINE - 1) / IN_LINE + (also[t] >= 0 ? 1 : 0);
            }
            pageCount = depth > 0 ? (lineCount + 2 * depth - 1) / (2 * depth) : 0;
        }

        /** Answers 0 for a line on the first page of the index. */
        private int pageWith(int line) {
            return depth > 0 ? line / (2 * depth) : 0;
        }

        private int columnOf(int line) {
            int page = pageWith(line);
            boolean isLastPage = page == pageCount - 1;
            int onPage = isLastPage ? lineCount - page * 2 * depth : 2 * depth;
            return line - page * 2 * depth < (onPage + 1) / 2 ? 0 : 1;
        }
    }
}
