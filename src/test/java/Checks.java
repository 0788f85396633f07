/** Counts answers that are due, and tells texts to a LetterHeirs. */
final class Checks {
    private static final int BLANKS = 0x20202020;
    private int passed = 0;
    private int failed = 0;
    // What stands before each call that is told: the document's sentence, if one was said.
    private String sentence = "";

    /** The sentence of the document that the calls behind it are held against. */
    void says(String words) {
        sentence = "\"" + words + "\" | ";
    }

    void due(String call, long got, long want) {
        due(call, String.valueOf(got), String.valueOf(want));
    }

    void due(String call, String got, String want) {
        if (got.equals(want)) {
            passed++;
            return;
        }
        failed++;
        System.out.println(sentence + call + " answered " + got + ", due is " + want);
    }

    void due(String call, boolean got, boolean want) {
        due(call, got ? 1 : 0, want ? 1 : 0);
    }

    /** Prints the closing line and ends the run as it went. */
    void close(String name) {
        System.out.println(name + ":");
        System.out.println(passed + " passed, " + failed + " failed");
        if (failed > 0) System.exit(1);
    }

    /** So many people without parents, each with 100 coins. */
    static LetterHeirs founders(int n) {
        LetterHeirs x = new LetterHeirs();
        for (int i = 0; i < n; i++) x.person(LetterHeirs.NONE, LetterHeirs.NONE, 100);
        return x;
    }

    /** Ends the life of one who LIVES on the next day. */
    static void bury(LetterHeirs x, int person) {
        x.set(0, person, x.look(2) + 1);
        x.days(1);
    }

    /** Founders on the last DAY that there may be: a hundred calls. */
    static LetterHeirs onLastDay(int n) {
        LetterHeirs x = founders(n);
        for (int i = 0; i < 99; i++) x.days(100);
        x.days(99);
        return x;
    }

    /** The empty tape has this text then. Signs are bytes: 0 to 255. */
    static void tape(LetterHeirs x, String text) {
        for (int at = 0; at < text.length(); at += 20) {
            x.feed(four(text, at), four(text, at + 4), four(text, at + 8), four(text, at + 12), four(text, at + 16));
        }
        x.end(text.length());
    }

    private static int four(String text, int at) {
        int number = BLANKS;
        for (int i = 0; i < 4; i++) {
            int sign = at + i < text.length() ? text.charAt(at + i) : 32;
            number = number << 8 | sign;
        }
        return number;
    }

    static int law(LetterHeirs x, String text) {
        tape(x, text);
        return x.text(0, 0);
    }

    static int will(LetterHeirs x, int person, String text) {
        tape(x, text);
        return x.text(1, person);
    }

    static int deed(LetterHeirs x, String text) {
        tape(x, text);
        return x.text(2, 0);
    }

    static int letters(String row) {
        int set = 0;
        for (int i = 0; i < row.length(); i++) set |= 1 << "abcdefghijklmnopqrstuvwxyz.,".indexOf(row.charAt(i));
        return set;
    }

    static String times(String text, int n) {
        StringBuilder all = new StringBuilder();
        for (int i = 0; i < n; i++) all.append(text);
        return all.toString();
    }
}
