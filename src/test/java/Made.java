/** Objects brought to where a test wants them, by calls of the face alone. */
final class Made {
    private Made() {
    }

    /** An object with this code, then a word and a residue for each register; those not told are 0. */
    static CodedWords with(int a, int width, int... wordsAndResidues) {
        CodedWords x = new CodedWords();
        x.codes(a, width);
        for (int i = 0; i + 1 < wordsAndResidues.length; i += 2) {
            put(x, i / 2, wordsAndResidues[i], wordsAndResidues[i + 1]);
        }
        return x;
    }

    /** Any word from -2 TOP to 2 TOP, by strikes, the highest bit as often as it takes. */
    static void put(CodedWords x, int r, int word, int residue) {
        x.sets(r, 0);
        int sign = word < 0 ? 1 : 0;
        int left = Math.abs(word);
        for (int k = x.count(1) - 1; k >= 0; k--) {
            while (left >= 1 << k) {
                x.strikes(r, 2 * k + sign);
                left -= 1 << k;
            }
        }
        if (residue != 0) {
            x.bends(r, residue);
        }
        if (x.register(r, 0) != word || x.register(r, 1) != residue) {
            throw new IllegalStateException("register " + r + " is not " + word + ", " + residue);
        }
    }

    /** Words at both ends, both images kept, six SEEN, twelve to undo: wherever something could change, something stands. */
    static CodedWords busy() {
        CodedWords x = new CodedWords();
        x.codes(7, 6);
        x.sets(0, 9);
        x.sets(3, -9);
        x.keep(0);
        x.codes(19, 9);
        x.sets(1, 26);
        x.bends(1, 3);
        x.keep(1);
        put(x, 0, 1022, 4);
        put(x, 2, -1022, 11);
        x.sets(3, -26);
        x.strikes(3, 5);
        int[] words = {9009, 9, 5, 2, 1001, 8};
        int[] fits = {1, 0, 0, 0, 1, 0};
        for (int i = 0; i < 6; i++) {
            x.sees(words[i], fits[i]);
        }
        return x;
    }

    /** The narrowest words; register 3 is out of reach, 2 is struck; three SEEN, image 1 kept. */
    static CodedWords narrow() {
        CodedWords x = with(3, 4, 15, 5, -15, 10, 14, 5, 30, 10);
        x.keep(1);
        x.sees(945, 1);
        x.sees(315, 0);
        x.sees(27, 0);
        return x;
    }

    /** The widest words and the highest constant; three to undo, image 0 kept, nothing SEEN. */
    static CodedWords wide() {
        CodedWords x = new CodedWords();
        x.codes(199, 16);
        x.keep(0);
        x.sets(0, 329);
        x.sets(1, -329);
        return x;
    }
}
