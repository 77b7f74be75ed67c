import java.util.Random;

/**
 * Plays random books (by fixed seeds) on Facingleaf and on PlainBook, and compares each answer.
 * With two numbers as arguments it plays those seeds: the first one, and how many.
 */
public final class AgainstPlainBookTest extends Both {

    private static final int SEEDS = 1500;

    private final Random random;
    private final int style;
    private static int compositions = 0;
    private static int failedCompositions = 0;
    private static int rings = 0;
    private static int mostRounds = 0;
    private static int untouchedSheets = 0;
    private static int cheaperByAll = 0;
    private static int overTheFold = 0;
    private static int barePages = 0;

    private AgainstPlainBookTest(long seed) {
        random = new Random(seed);
        style = (int) (seed % 8);
    }

    private int upTo(int most) {
        return random.nextInt(most + 1);
    }

    private int chapter() {
        int roll = random.nextInt(40);
        return roll == 0 ? 3 : roll == 1 ? -1 : style % 3 == 0 ? 0 : random.nextInt(3);
    }

    private void putWord() {
        int kind = random.nextInt(100) < 2 ? random.nextInt(8) - 1 : kindByStyle();
        int[] low = {0, 0, 0, 1, 2, 0, 1, 0};
        int[] high = {0, 0, 9, 4, 5, 9, 3, 0};
        int value = low[kind + 1] + upTo(high[kind + 1] - low[kind + 1]);
        if (random.nextInt(60) == 0) {
            value = random.nextInt(14) - 2;
        }
        int w = random.nextInt(50) == 0 ? random.nextInt(11) - 1 : wideByStyle();
        if (kind >= 0 && random.nextInt(style == 4 || style == 7 ? 3 : 9) == 0) {
            int label = random.nextInt(40) == 0 ? 10 : upTo(9);
            refer(label);
        } else {
            word(w, kind, value);
        }
    }

    private int wideByStyle() {
        return style == 2 || style == 5 ? 8 - upTo(1) : 1 + upTo(7);
    }

    private int kindByStyle() {
        int roll = random.nextInt(100);
        switch (style) {
            case 0: return roll < 80 ? 0 : 1 + upTo(4);
            case 1: return roll < 50 ? 0 : roll < 70 ? 2 : roll < 85 ? 3 : 5;
            case 2: return roll < 70 ? 0 : roll < 80 ? 3 : 1 + upTo(4);
            case 3: return roll < 40 ? 0 : roll < 80 ? 5 : 4;
            case 4: return roll < 60 ? 0 : 1;
            case 5: return roll < 60 ? 0 : 1 + upTo(4);
            case 6: return roll < 30 ? 0 : roll < 90 ? 4 : 2;
            default: return roll < 60 ? 0 : roll < 80 ? 1 : 2;
        }
    }

    private void fill() {
        int most = random.nextInt(25) == 0 ? 21 : style == 1 ? 1 + upTo(6) : 1 + upTo(14);
        for (int w = 0; w < most; w++) {
            putWord();
        }
    }

    private void change() {
        int c = chapter();
        int roll = random.nextInt(100);
        if (roll < 55) {
            fill();
            paragraph(c);
        } else if (roll < 70) {
            int level = random.nextInt(30) == 0 ? 2 : upTo(1);
            int need = random.nextInt(30) == 0 ? 4 * upTo(1) : 1 + upTo(2);
            head(c, level, need);
        } else if (roll < 86) {
            fill();
            replace(c, upTo(6) - (random.nextInt(20) == 0 ? 7 : 0));
        } else if (roll < 90) {
            seeAlso(upTo(10), upTo(11) - 1);
        } else if (roll < 94) {
            measures(8 + upTo(23), 8 + upTo(7));
        } else if (roll < 97) {
            byPage(random.nextBoolean());
        }
        if (random.nextInt(3) == 0) {
            clear();
        }
    }

    private void composeBook() {
        String rounds = compose(random.nextBoolean());
        if (!rounds.startsWith("throws")) {
            compositions++;
            failedCompositions += rounds.equals("-1") ? 1 : 0;
            mostRounds = Math.max(mostRounds, Integer.parseInt(rounds));
            rings += other.composed && other.settled ? 1 : 0;
        }
        tellBook();
        untouchedSheets += other.composed && other.untouched() > 0 ? 1 : 0;
        for (int c = 0; c < 3; c++) {
            String cost = cost(c);
            String byAll = costByAll(c);
            cheaperByAll += cost.equals(byAll) || byAll.startsWith("t") ? 0 : 1;
            tellChapter(c);
        }
    }

    private void tellPages() {
        int most = other.composed ? other.pages.size() + 1 : 2;
        for (int k = 0; k < Math.min(most, 6); k++) {
            int p = most > 6 ? upTo(most) : k + upTo(1);
            tellPage(p, random.nextBoolean());
            for (int what = upTo(1) - 1; what < 5 + upTo(1); what++) {
                tellOnPage(p, what);
            }
            if (other.composed && p >= 1 && p < most) {
                PlainBook.Page page = other.pages.get(p - 1);
                barePages += page.kind < 3 && page.rows.isEmpty() ? 1 : 0;
            }
        }
    }

    private void tellSomeItem() {
        int c = chapter();
        int i = upTo(9) - (random.nextInt(20) == 0 ? 10 : 0);
        same("items(" + c + ")", () -> one.items(c), () -> other.items(c));
        String words = same("words(" + c + ", " + i + ")", () -> one.words(c, i),
            () -> other.words(c, i));
        tellItem(c, i);
        int line = upTo(6) - upTo(1);
        same("wordsTo(" + c + ", " + i + ", " + line + ")", () -> one.wordsTo(c, i, line),
            () -> other.wordsTo(c, i, line));
        int row = upTo(30) - upTo(1);
        same("pageOfRow(" + c + ", " + row + ")", () -> one.pageOfRow(c, row),
            () -> other.pageOfRow(c, row));
        int count = words.startsWith("t") ? 0 : Integer.parseInt(words);
        for (int k = 0; k < 4 && k <= count; k++) {
            int w = upTo(count) - (random.nextInt(20) == 0 ? count : 0);
            tellWord(c, i, w);
        }
    }

    private void tellIndex() {
        int t = upTo(11) - 1;
        same("ranges(" + t + ")", () -> one.ranges(t), () -> other.ranges(t));
        int r = upTo(4) - 1;
        boolean b = random.nextBoolean();
        same("range(" + t + ", " + r + ", " + b + ")", () -> one.range(t, r, b),
            () -> other.range(t, r, b));
        int line = upTo(18) - 1;
        same("indexLine(" + line + ")", () -> one.indexLine(line), () -> other.indexLine(line));
    }

    private void allMargins() {
        for (int c = 0; c < 3; c++) {
            for (int i = 0; i < other.chapters.get(c).size(); i++) {
                for (int w = 0; w < other.chapters.get(c).get(i).words.size(); w++) {
                    int chapter = c;
                    int item = i;
                    int word = w;
                    if (other.chapters.get(c).get(i).words.get(w).kind() == 5) {
                        String place = same("marginOf(" + c + ", " + i + ", " + w + ")",
                            () -> one.marginOf(chapter, item, word),
                            () -> other.marginOf(chapter, item, word));
                        overTheFold += place.equals("-1") ? 1 : 0;
                    }
                }
            }
        }
    }

    private void play() {
        measures(8 + upTo(style == 2 ? 2 : 12), 8 + upTo(3));
        if (style == 7) {
            byPage(true);
        }
        for (int turn = 0; turn < 60; turn++) {
            for (int k = upTo(turn == 0 ? 8 : 2); k >= 0; k--) {
                change();
            }
            composeBook();
            tellPages();
            tellSomeItem();
            tellIndex();
            if (other.composed && style == 3) {
                allMargins();
            }
            if (random.nextInt(3) == 0) {
                print();
            }
        }
    }

    public static void main(String[] args) {
        long first = args.length > 1 ? Long.parseLong(args[0]) : 0;
        long count = args.length > 1 ? Long.parseLong(args[1]) : SEEDS;
        for (long seed = first; seed < first + count; seed++) {
            AgainstPlainBookTest run = new AgainstPlainBookTest(seed);
            try {
                run.play();
            } catch (Enough e) {
                // 512 calls are made
            } catch (AssertionError e) {
                System.out.println("seed " + seed + ": " + e.getMessage());
                System.exit(1);
            }
        }
        System.out.println(count + " runs: " + compositions + " composings, of which "
            + failedCompositions + " failed, at most " + mostRounds + " rounds, " + rings
            + " rings; " + untouchedSheets + " times untouched sheets, " + cheaperByAll
            + " times cheaper by all, " + overTheFold + " lost margins, " + barePages
            + " pages without rows");
    }
}
