/** Writes drafts from texts: each word is its width, and perhaps a letter and a number behind it. */
final class Drafts {

    static final int REFERENCE = 6;

    private Drafts() { }

    /**
     * Puts words into the draft: 3 a word 3 wide, 3L4 with the label 4, 3N2 with a note of two
     * lines, 3F5 with a float five rows high, 3E0 with an entry of the term 0, 3M1 with a margin
     * one row high, and R4 a reference to the label 4.
     */
    static void put(Facingleaf x, String words) {
        for (String word : words.split(" ")) {
            int[] parts = parts(word);
            if (parts[1] == REFERENCE) {
                x.refer(parts[2]);
            } else {
                x.word(parts[0], parts[1], parts[2]);
            }
        }
    }

    /** The width, the kind and the value of a word; a reference has a kind of its own. */
    static int[] parts(String word) {
        if (word.charAt(0) == 'R') {
            return new int[] {0, REFERENCE, word.charAt(1) - '0'};
        }
        int kind = word.length() == 1 ? 0 : "LNFEM".indexOf(word.charAt(1)) + 1;
        return new int[] {word.charAt(0) - '0', kind, kind == 0 ? 0 : word.charAt(2) - '0'};
    }

    static int paragraph(Facingleaf x, int chapter, String words) {
        put(x, words);
        return x.paragraph(chapter);
    }

    static int replace(Facingleaf x, int chapter, int item, String words) {
        put(x, words);
        return x.replace(chapter, item);
    }

    /** A paragraph of so many words that are 8 wide: as many lines, if the width is 8 to 16. */
    static int rows(Facingleaf x, int chapter, int count) {
        return paragraph(x, chapter, eights(count));
    }

    static String eights(int count) {
        return "8 ".repeat(count).trim();
    }

    static Facingleaf book(int width, int depth) {
        Facingleaf x = new Facingleaf();
        x.setMeasures(width, depth);
        return x;
    }
}
