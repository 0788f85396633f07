/** The promises' own words on what each call answers when it can't be, and the first and the last that can. */
public final class AnswersTests {
    private static final int NONE = LetterHeirs.NONE;
    private static final int NO_ANSWER = NONE - 1;
    private static final int ALL_LETTERS = 268435455;
    private static final int[] FAR = {Integer.MIN_VALUE, Integer.MAX_VALUE};
    private static final Checks t = new Checks();

    public static void main(String[] args) {
        constant();
        nobodyThere();
        nobodyActs();
        fault();
        faultOfTheLatest();
        of();
        ofTheDead();
        kin();
        letter();
        deed();
        at();
        book();
        weddings();
        worth();
        look();
        lookFull();
        t.close("AnswersTests");
    }

    private static void constant() {
        t.says("NONE = -1");
        t.due("NONE", LetterHeirs.NONE, -1);
    }

    private static void nobodyThere() {
        t.says("A new object: Nobody there");
        LetterHeirs x = new LetterHeirs();
        int[] due = {0, 0, 0, 1, 0, 0, 0, 0, 0, ALL_LETTERS, 0, NO_ANSWER};
        for (int what = 0; what < due.length; what++) t.due("look(" + what + ")", x.look(what), due[what]);
        for (int p = -1; p < 13; p++) {
            t.due("of(" + p + ")", x.of(p, 0), NO_ANSWER);
            t.due("kin(" + p + ", himself)", x.kin(p, p), NONE);
            t.due("silent(" + p + ")", x.silent(p), NONE);
            t.due("best(" + p + ")", x.best(p, 0), NONE);
            t.due("whenCan(" + p + ")", x.whenCan(p, 0), NONE);
            t.due("weddings(" + p + ")", x.weddings(p, 0, 0), NONE);
            t.due("worth(" + p + ")", x.worth(p, p + 1, 0), 0);
            t.due("inherit(" + p + ")", x.inherit(p, 0, 0), NO_ANSWER);
        }
        for (int l = 0; l < 28; l++) {
            t.due("who can write " + l, x.letter(l, 3), 0);
            t.due("changes of " + l, x.letter(l, 4), 0);
            t.due("VALUE of " + l, x.letter(l, 5), 0);
            t.due("trace(" + l + ")", x.trace(l, 0), NONE);
        }
        for (int d = 0; d < 8; d++) t.due("deed(" + d + ")", x.deed(d, 0), NO_ANSWER);
        t.due("at", x.at(0, 0), NONE);
        t.due("book", x.book(0, 0), NO_ANSWER);
        t.due("hand", x.hand(1), 0);
        t.due("dumb", x.dumb(), 0);
    }

    private static void nobodyActs() {
        LetterHeirs x = new LetterHeirs();
        t.due("set", x.set(1, 0, 1), false);
        t.due("own by nobody there", x.own(0, 0), false);
        t.due("own by NONE", x.own(0, NONE), true);
        t.due("wed", x.wed(0, 1), false);
        t.due("part", x.part(0, 1), false);
        t.due("lend", x.lend(0, 1, 1, 0), false);
        t.due("lend to NONE", x.lend(0, NONE, 1, 0), false);
        t.due("give", x.give(0, 1), false);
        t.due("give to NONE", x.give(0, NONE), false);
        t.due("duel", x.duel(0, 1, 0), NONE);
        t.due("duel of NONE", x.duel(NONE, 0, 0), NONE);
        t.due("sign", x.sign(0, 1), NONE);
        t.due("undo", x.undo(), false);
        t.due("image(false)", x.image(false), false);
        t.due("a DAY ends", x.days(1), 0);
        t.due("THE WILL of nobody", x.text(1, 0), NONE);
        t.due("a DEED", Checks.deed(x, "a"), 0);
        t.due("its SIGNERS", x.deed(0, 5), NONE);
        t.due("ALONE", x.deed(0, 6), 0);
        t.due("NEEDED", x.deed(0, 7), 0);
        t.due("signed by nobody there", x.sign(0, 1), NONE);
        t.due("image(true)", x.image(true), true);
        x.person(NONE, NONE, 0);
        t.due("image(false)", x.image(false), true);
        t.due("nobody there again", x.look(0), 0);
    }

    private static void fault() {
        t.says("Of the latest text() what 0 the FAULT (0 without one), 1 its place (NONE). NONE for another what");
        LetterHeirs x = new LetterHeirs();
        t.due("before any text", x.fault(0), 0);
        t.due("its place", x.fault(1), NONE);
        Checks.law(x, "heir ;");
        t.due("FAULT", x.fault(0), 1);
        t.due("its place", x.fault(1), 5);
        t.due("what -1", x.fault(-1), NONE);
        t.due("what 2", x.fault(2), NONE);
        for (int what : FAR) t.due("what " + what, x.fault(what), NONE);
        Checks.law(x, "?");
        t.due("a place 0", x.fault(1), 0);
    }

    private static void faultOfTheLatest() {
        LetterHeirs x = Checks.founders(1);
        Checks.deed(x, "");
        t.due("FAULT", x.fault(0), 4);
        x.feed(0, 0, 0, 0, 0);
        x.end(0);
        x.days(1);
        x.undo();
        t.due("nothing but text() changes it", x.fault(0), 4);
        Checks.will(x, 0, "leave \"\" to 0;");
        t.due("the latest", x.fault(0), 2);
        x.text(5, 0);
        t.due("a text that can't be has none", x.fault(0), 0);
        t.due("its place", x.fault(1), NONE);
        Checks.law(x, "heir 1/0;");
        Checks.law(x, "heir 1;");
        t.due("a text without one", x.fault(0), 0);
        t.due("its place", x.fault(1), NONE);
    }

    private static void of() {
        t.says("Of a PERSON what 0 MOTHER, 1 FATHER, 2 BORN, 3 DIES (NONE), 4 FRAIL, 5 SKILL, 6 COIN, 7 SPOUSE (NONE), 8 1 if he LIVES, else 0, 9 the LETTERS that he OWNS, 10 those that he CAN write (sets), 11 lines of THE WILL");
        LetterHeirs x = Checks.founders(2);
        x.days(4);
        x.person(1, 0, 7);
        x.person(NONE, NONE, 8);
        x.set(0, 2, 55);
        x.set(1, 2, 11);
        x.set(2, 2, 22);
        x.own(0, 2);
        x.own(27, 2);
        x.own(1, 1);
        x.wed(2, 3);
        Checks.will(x, 2, "rest to 0;rest to 1;rest to 3;");
        int[] due = {1, 0, 4, 55, 11, 22, 7, 3, 1, 134217729, 134217731, 3};
        int[] plain = {NONE, NONE, 0, NONE, 0, 0, 100, NONE, 1, 0, 134217729, 0};
        for (int what = 0; what < 12; what++) {
            t.due("of(2, " + what + ")", x.of(2, what), due[what]);
            t.due("of(0, " + what + ")", x.of(0, what), plain[what]);
        }
        t.says("NONE - 1 if there is none such, or another what");
        for (int what : new int[] {-1, -2, 12, 13}) t.due("of(2, " + what + ")", x.of(2, what), NO_ANSWER);
        for (int what : FAR) t.due("of(2, " + what + ")", x.of(2, what), NO_ANSWER);
        for (int person : new int[] {-1, 4, 11, 12}) t.due("of(" + person + ", 0)", x.of(person, 0), NO_ANSWER);
        for (int person : FAR) t.due("of(" + person + ", 0)", x.of(person, 0), NO_ANSWER);
    }

    private static void ofTheDead() {
        t.says("8 1 if he LIVES, else 0");
        LetterHeirs x = Checks.founders(2);
        x.own(0, 0);
        x.wed(0, 1);
        Checks.will(x, 0, "rest to 1;");
        Checks.bury(x, 0);
        int[] due = {NONE, NONE, 0, 1, 0, 0, 100, 1, 0, 0, 0, 1};
        for (int what = 0; what < 12; what++) t.due("of(0, " + what + ")", x.of(0, what), due[what]);
    }

    private static void kin() {
        t.says("KIN of two; NONE if one can't be");
        LetterHeirs x = Checks.founders(2);
        t.due("kin(1, 1)", x.kin(1, 1), 0);
        t.due("kin(0, 1)", x.kin(0, 1), 99);
        for (int person : new int[] {-1, 2, 12, Integer.MIN_VALUE, Integer.MAX_VALUE}) {
            t.due("kin(" + person + ", 0)", x.kin(person, 0), NONE);
            t.due("kin(0, " + person + ")", x.kin(0, person), NONE);
            t.due("kin(" + person + ", himself)", x.kin(person, person), NONE);
        }
        Checks.bury(x, 0);
        t.due("of who does not LIVE", x.kin(0, 0), 0);
        t.due("to who LIVES", x.kin(0, 1), 99);
    }

    private static void letter() {
        t.says("Of a LETTER what 0 OWNER (NONE), 1 to whom it is lent (NONE), 2 the last DAY of that (NONE), 3 who CAN write it (a set), 4 how many changes of OWNER THE BOOK has, 5 VALUE");
        LetterHeirs x = Checks.founders(3);
        x.own(27, 0);
        x.own(27, 1);
        x.lend(27, 2, 9, 0);
        Checks.deed(x, ",,");
        int[] due = {1, 2, 9, 4, 2, 2};
        int[] plain = {NONE, NONE, NONE, 0, 0, 0};
        for (int what = 0; what < 6; what++) {
            t.due("letter(27, " + what + ")", x.letter(27, what), due[what]);
            t.due("letter(0, " + what + ")", x.letter(0, what), plain[what]);
        }
        t.says("NONE - 1 if there is none such, or another what");
        for (int what : new int[] {-1, -2, 6, 7}) t.due("letter(27, " + what + ")", x.letter(27, what), NO_ANSWER);
        for (int what : FAR) t.due("letter(27, " + what + ")", x.letter(27, what), NO_ANSWER);
        for (int l : new int[] {-1, 28, Integer.MIN_VALUE, Integer.MAX_VALUE}) {
            for (int what = 0; what < 6; what++) t.due("letter(" + l + ", " + what + ")", x.letter(l, what), NO_ANSWER);
        }
    }

    private static void deed() {
        t.says("Of a DEED what 0 its LETTERS (a set), 1 how many signs, 2 SIGNED by whom (a set; 0: not yet), 3 FORGED (as it was then), 4 the DAY of that (NONE), 5 SIGNERS (NONE), 6 ALONE, 7 NEEDED (sets)");
        LetterHeirs x = Checks.founders(3);
        x.own(0, 1);
        x.own(27, 2);
        Checks.deed(x, "z");
        Checks.deed(x, "a,a");
        x.days(2);
        x.sign(1, 3);
        x.own(27, 1);
        int[] plain = {1 << 25, 1, 0, 0, NONE, NONE, 0, 0};
        int[] due = {134217729, 3, 3, 134217728, 2, 2, 2, 2};
        for (int what = 0; what < 8; what++) {
            t.due("deed(0, " + what + ")", x.deed(0, what), plain[what]);
            t.due("deed(1, " + what + ")", x.deed(1, what), due[what]);
        }
        t.says("NONE - 1 if there is none such, or another what");
        for (int what : new int[] {-1, -2, 8, 9}) t.due("deed(1, " + what + ")", x.deed(1, what), NO_ANSWER);
        for (int what : FAR) t.due("deed(1, " + what + ")", x.deed(1, what), NO_ANSWER);
        for (int d : new int[] {-1, 2, 7, 8, Integer.MIN_VALUE, Integer.MAX_VALUE}) {
            for (int what = 0; what < 8; what++) t.due("deed(" + d + ", " + what + ")", x.deed(d, what), NO_ANSWER);
        }
    }

    private static void at() {
        t.says("Sign i of a DEED: a LETTER; NONE if there is none such");
        LetterHeirs x = new LetterHeirs();
        Checks.deed(x, " z\n,a ");
        Checks.deed(x, Checks.times("b", 40));
        int[] due = {NONE, 25, 27, 0, NONE, NONE};
        for (int i = -1; i < 5; i++) t.due("at(0, " + i + ")", x.at(0, i), due[i + 1]);
        t.due("at(1, 0)", x.at(1, 0), 1);
        t.due("at(1, 39)", x.at(1, 39), 1);
        t.due("at(1, 40)", x.at(1, 40), NONE);
        t.due("at(1, -1)", x.at(1, -1), NONE);
        for (int i : FAR) t.due("at(1, " + i + ")", x.at(1, i), NONE);
        for (int d : new int[] {-1, 2, 7, 8, Integer.MIN_VALUE, Integer.MAX_VALUE}) t.due("at(" + d + ", 0)", x.at(d, 0), NONE);
    }

    private static void book() {
        t.says("Of line i of THE BOOK what 0 LETTER, 1 from, 2 to, 3 DAY, 4 how. NONE - 1 if there is none such, or another what");
        LetterHeirs x = Checks.founders(2);
        x.own(27, 1);
        x.days(6);
        x.give(27, 0);
        int[] due = {NO_ANSWER, 27, 1, 0, 6, 1, NO_ANSWER};
        int[] first = {NO_ANSWER, 27, NONE, 1, 0, 0, NO_ANSWER};
        for (int what = -1; what < 6; what++) {
            t.due("book(1, " + what + ")", x.book(1, what), due[what + 1]);
            t.due("book(0, " + what + ")", x.book(0, what), first[what + 1]);
        }
        for (int what : FAR) t.due("book(0, " + what + ")", x.book(0, what), NO_ANSWER);
        for (int i : new int[] {-1, 2, 199, 200, Integer.MIN_VALUE, Integer.MAX_VALUE}) {
            for (int what = 0; what < 5; what++) t.due("book(" + i + ", " + what + ")", x.book(i, what), NO_ANSWER);
        }
    }

    private static void weddings() {
        t.says("WEDDINGS what 0 how many, 1, 2 the PEOPLE of the first, 3, 4 of the second (NONE). NONE if there is no way, one can't be (does not LIVE), or another what");
        LetterHeirs x = Checks.founders(3);
        x.own(0, 0);
        x.own(1, 1);
        Checks.deed(x, "a");
        Checks.deed(x, "b");
        Checks.deed(x, "z");
        int[][] due = {{0, NONE, NONE, NONE, NONE}, {1, 0, 1, NONE, NONE}, {NONE, NONE, NONE, NONE, NONE}};
        for (int d = 0; d < 3; d++) {
            for (int what = 0; what < 5; what++) t.due("weddings(0, " + d + ", " + what + ")", x.weddings(0, d, what), due[d][what]);
        }
        for (int what : new int[] {-1, 5, Integer.MIN_VALUE, Integer.MAX_VALUE}) t.due("weddings(0, 0, " + what + ")", x.weddings(0, 0, what), NONE);
        for (int d : new int[] {-1, 3, 8, Integer.MIN_VALUE, Integer.MAX_VALUE}) t.due("weddings(0, " + d + ", 0)", x.weddings(0, d, 0), NONE);
        Checks.bury(x, 2);
        t.due("who does not LIVE", x.weddings(2, 0, 0), NONE);
        x.own(2, 1);
        Checks.bury(x, 1);
        t.due("whose OWNER does not LIVE", x.weddings(0, 1, 0), NONE);
    }

    private static void worth() {
        t.says("WORTH of an heir for a LETTER of a PERSON, now; 0 if one can't be (one does not LIVE, alike)");
        LetterHeirs x = Checks.founders(3);
        Checks.law(x, "heir 0-7;");
        t.due("worth(0, 1, 0)", x.worth(0, 1, 0), -7);
        t.due("worth(2, 0, 27)", x.worth(2, 0, 27), -7);
        t.due("alike", x.worth(1, 1, 0), 0);
        Checks.bury(x, 1);
        t.due("the heir does not LIVE", x.worth(0, 1, 0), 0);
        t.due("who leaves does not LIVE", x.worth(1, 0, 0), 0);
        t.due("both LIVE", x.worth(0, 2, 0), -7);
        Checks.law(x, "heir day;");
        t.due("now", x.worth(0, 2, 0), 1);
        x.days(1);
        t.due("a DAY later", x.worth(0, 2, 0), 2);
    }

    private static void look() {
        t.says("What 0 PEOPLE, 1 who LIVES (a set), 2 DAY, 3 NEAR, 4 DEEDS, 5 lines of THE BOOK, 6 STATE, 7 lines of THE LAW, 8 what can be undone, 9 LETTERS without an OWNER (a set), 10 how many LOANS");
        LetterHeirs x = Checks.founders(5);
        x.own(0, 0);
        x.own(27, 1);
        x.own(3, 1);
        x.set(4, 0, 2);
        Checks.bury(x, 4);
        x.state(-9);
        Checks.law(x, "heir 1;heir 2;heir 3;");
        Checks.deed(x, "a");
        Checks.deed(x, "b");
        x.lend(0, 2, 9, 0);
        x.lend(3, 2, 9, 0);
        x.days(4);
        int[] due = {5, 15, 5, 2, 2, 3, -9, 3, 6, ALL_LETTERS - (1 << 27) - 9, 2};
        for (int what = 0; what < 11; what++) t.due("look(" + what + ")", x.look(what), due[what]);
        t.says("NONE - 1 for another what. (STATE as it is.)");
        for (int what : new int[] {-1, -2, 11, 12, Integer.MIN_VALUE, Integer.MAX_VALUE}) t.due("look(" + what + ")", x.look(what), NO_ANSWER);
        x.state(NO_ANSWER);
        t.due("STATE may be NONE - 1 itself", x.look(6), NO_ANSWER);
    }

    private static void lookFull() {
        t.says("What .. 10 how many LOANS");
        LetterHeirs x = Checks.founders(2);
        for (int l = 0; l < 28; l++) {
            x.own(l, 0);
            t.due("before the LOAN of " + l, x.look(10), l);
            x.lend(l, 1, 1, 0);
        }
        t.due("all lent", x.look(10), 28);
        t.due("all have an OWNER", x.look(9), 0);
        x.own(27, NONE);
        t.due("one is lent no more", x.look(10), 27);
        t.due("one without an OWNER", x.look(9), 1 << 27);
        x.days(2);
        t.due("none is lent", x.look(10), 0);
    }
}
