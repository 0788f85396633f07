/** All that can be asked of an object, in some 200 calls, and a clan to ask it of. */
final class Dump {
    private static final int NONE = LetterHeirs.NONE;
    private static final int[] LETTERS = {0, 1, 2, 3, 20, 27};

    private Dump() { }

    /**
     * Seven people: 0 and 1, wed, and their child 2; 3 and his child 4; 5, who died on the first day; 6.
     * Three acts and the latest day can be undone; two die on the next one.
     */
    static LetterHeirs clan() {
        LetterHeirs x = Checks.founders(2);
        x.person(0, 1, 40);
        x.person(NONE, NONE, 99990);
        x.person(3, NONE, 0);
        x.person(NONE, NONE, 5);
        x.person(NONE, NONE, 60);
        x.own(0, 0);
        x.own(1, 0);
        x.own(2, 1);
        x.own(3, 5);
        x.own(27, 3);
        x.set(2, 3, 9);
        x.set(1, 4, 5000);
        x.set(0, 5, 1);
        x.set(0, 6, 2);
        Checks.law(x, "heir 5-owns when child=1;heir 1 when kin<9;");
        Checks.will(x, 0, "leave \"a\" to 2 if 3;rest to 4;");
        Checks.will(x, 5, "rest to 4;");
        Checks.deed(x, "abc");
        Checks.deed(x, ",a");
        Checks.deed(x, ",");
        // from this STATE on the first draw of 10000 is not below 5000, the second is
        x.state(4);
        x.wed(0, 1);
        x.sign(0, 3);
        x.lend(1, 3, 9, 1);
        x.days(1);
        return x;
    }

    static String of(LetterHeirs x) {
        StringBuilder all = new StringBuilder();
        for (int what = 0; what < 11; what++) add(all, "look", what, x.look(what));
        for (int p = 0; p < x.look(0); p++) {
            for (int what = 0; what < 12; what++) add(all, "of " + p, what, x.of(p, what));
            add(all, "worth", p, x.worth(p, (p + 1) % 3, 2));
        }
        for (int l : LETTERS) {
            for (int what = 0; what < 5; what++) add(all, "letter " + l, what, x.letter(l, what));
            int owner = x.letter(l, 0);
            for (int what = 0; what < 2; what++) add(all, "inherit " + l, what, x.inherit(owner, l, what));
        }
        for (int d = 0; d < x.look(4); d++) {
            for (int what = 0; what < 5; what++) add(all, "deed " + d, what, x.deed(d, what));
            for (int i = 0; i < x.deed(d, 1); i++) add(all, "at " + d, i, x.at(d, i));
        }
        for (int i = 0; i < x.look(5); i++) {
            for (int what = 0; what < 5; what++) add(all, "book " + i, what, x.book(i, what));
        }
        return all.toString();
    }

    private static void add(StringBuilder all, String call, int what, int answer) {
        all.append(call).append(',').append(what).append('=').append(answer).append(' ');
    }
}
