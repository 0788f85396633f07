/** 'Terms', 1. LETTERS and PEOPLE: each sentence that names a boundary case, told with its own words. */
public final class TermsTests {
    private static final int NONE = LetterHeirs.NONE;
    private static final int ALL_LETTERS = 268435455;
    private static final Checks t = new Checks();

    public static void main(String[] args) {
        stateAtFirst();
        draw();
        letters();
        lettersOutside();
        people();
        peopleOutside();
        parents();
        born();
        firstValues();
        bounds();
        diesBounds();
        lives();
        letterAtFirst();
        day();
        near();
        kinSteps();
        kinOverTheDead();
        kinFar();
        canByNear();
        canByLoan();
        canByOwner();
        t.close("TermsTests");
    }

    private static void stateAtFirst() {
        t.says("STATE of draws (an int, 0 at first)");
        LetterHeirs x = new LetterHeirs();
        t.due("look(6) of a new one", x.look(6), 0);
        t.due("state(the greatest int)", x.state(Integer.MAX_VALUE), 0);
        t.due("look(6)", x.look(6), Integer.MAX_VALUE);
        t.due("state(the least int)", x.state(Integer.MIN_VALUE), Integer.MAX_VALUE);
        t.due("look(6)", x.look(6), Integer.MIN_VALUE);
        t.due("state(-1)", x.state(-1), Integer.MIN_VALUE);
        t.due("look(6)", x.look(6), -1);
    }

    private static void draw() {
        t.says("a DRAW of m: it becomes 1664525 times itself + 1013904223 (ints, which wrap), then it is its highest 24 bits (without sign) modulo m");
        int[] states = {0, 1, -1, 2, -2, 1013904223, 77777777, -123456789, Integer.MAX_VALUE, Integer.MIN_VALUE, 1 << 30};
        int[][] skills = {{0, 0}, {99, 99}, {0, 99}, {99, 0}, {3, 5}, {41, 17}};
        for (int state : states) {
            for (int[] skill : skills) {
                long next = (1664525L * state + 1013904223L) & 0xffffffffL;
                long drawn = (next >> 8) % (skill[0] + skill[1] + 2);
                LetterHeirs x = Checks.founders(2);
                x.own(0, 0);
                x.set(2, 0, skill[0]);
                x.set(2, 1, skill[1]);
                x.state(state);
                t.due("duel from STATE " + state + ", SKILL " + skill[0] + ", " + skill[1], x.duel(0, 1, 0), drawn < skill[0] + 1 ? 0 : 1);
                t.due("STATE behind " + state, x.look(6), (int) next);
            }
        }
    }

    private static void letters() {
        t.says("LETTERS 0 .. 27: small a .. z, then point, comma; as a set LETTER l counts 2 to the l");
        LetterHeirs x = Checks.founders(1);
        Checks.deed(x, "abcdefghijklmnopqrstuvwxyz.,");
        for (int l = 0; l < 28; l++) t.due("at(0, " + l + ")", x.at(0, l), l);
        t.due("all of them", x.deed(0, 0), ALL_LETTERS);
        int owned = 0;
        for (int l = 27; l >= 0; l--) {
            t.due("own(" + l + ", 0)", x.own(l, 0), true);
            owned += (int) Math.pow(2, l);
            t.due("of(0, 9) with " + l, x.of(0, 9), owned);
            t.due("of(0, 10) with " + l, x.of(0, 10), owned);
            t.due("look(9) with " + l, x.look(9), ALL_LETTERS - owned);
        }
    }

    private static void lettersOutside() {
        LetterHeirs x = Checks.founders(2);
        for (int l : new int[] {0, 27}) {
            t.due("own(" + l + ")", x.own(l, 0), true);
            t.due("letter(" + l + ")", x.letter(l, 0), 0);
            t.due("lend(" + l + ")", x.lend(l, 1, 1, 0), true);
            t.due("duel(" + l + ")", x.duel(0, 1, l), x.letter(l, 0));
            x.own(l, 0);
            t.due("give(" + l + ")", x.give(l, 1), true);
            t.due("inherit(" + l + ")", x.inherit(1, l, 0), NONE);
            t.due("trace(" + l + ")", x.trace(l, 0) != NONE, true);
        }
        Checks.law(x, "heir 5;");
        for (int l : new int[] {-1, 28, Integer.MIN_VALUE, Integer.MAX_VALUE, 32, -28}) {
            t.due("own(" + l + ")", x.own(l, 0), false);
            t.due("letter(" + l + ")", x.letter(l, 0), -2);
            t.due("lend(" + l + ")", x.lend(l, 1, 1, 0), false);
            t.due("duel(" + l + ")", x.duel(0, 1, l), NONE);
            t.due("give(" + l + ")", x.give(l, 1), false);
            t.due("inherit(" + l + ")", x.inherit(1, l, 0), -2);
            t.due("worth(" + l + ")", x.worth(0, 1, l), 0);
            t.due("trace(" + l + ")", x.trace(l, 0), NONE);
        }
    }

    private static void people() {
        t.says("PEOPLE 0 .. 11 as they come");
        LetterHeirs x = new LetterHeirs();
        t.due("nobody", x.look(0), 0);
        t.due("nobody is 0", x.of(0, 8), -2);
        for (int p = 0; p < 12; p++) {
            t.due("the next one", x.person(NONE, NONE, p), p);
            t.due("how many", x.look(0), p + 1);
            t.due("is there", x.of(p, 6), p);
            t.due("is not there yet", x.of(p + 1, 6), -2);
        }
        t.due("as a set", x.look(1), 4095);
        t.due("a thirteenth", x.person(NONE, NONE, 0), NONE);
        t.due("a thirteenth with parents", x.person(0, 1, 0), NONE);
        t.due("twelve still", x.look(0), 12);
    }

    private static void peopleOutside() {
        LetterHeirs x = Checks.founders(3);
        x.own(0, 0);
        Checks.deed(x, "a");
        Checks.law(x, "heir 5;");
        for (int p : new int[] {-1, -2, 3, 11, 12, 31, 32, Integer.MIN_VALUE, Integer.MAX_VALUE}) {
            for (int what = 0; what < 4; what++) t.due("set(" + what + ", " + p + ")", x.set(what, p, 5), false);
            if (p != NONE) t.due("own(0, " + p + ")", x.own(0, p), false);
            t.due("text(1, " + p + ")", x.text(1, p), NONE);
            t.due("wed(0, " + p + ")", x.wed(0, p), false);
            t.due("wed(" + p + ", 0)", x.wed(p, 0), false);
            t.due("part(0, " + p + ")", x.part(0, p), false);
            t.due("part(" + p + ", 0)", x.part(p, 0), false);
            t.due("lend to " + p, x.lend(0, p, 1, 0), false);
            t.due("give to " + p, x.give(0, p), false);
            t.due("duel(0, " + p + ")", x.duel(0, p, 0), NONE);
            t.due("duel(" + p + ", 0)", x.duel(p, 0, 0), NONE);
            t.due("of(" + p + ")", x.of(p, 8), -2);
            t.due("kin(0, " + p + ")", x.kin(0, p), NONE);
            t.due("kin(" + p + ", 0)", x.kin(p, 0), NONE);
            t.due("kin(" + p + ", himself)", x.kin(p, p), NONE);
            t.due("weddings(" + p + ")", x.weddings(p, 0, 0), NONE);
            t.due("whenCan(" + p + ")", x.whenCan(p, 0), NONE);
            t.due("inherit(" + p + ")", x.inherit(p, 0, 0), -2);
            t.due("inherit(" + p + ") of no OWNER", x.inherit(p, 1, 0), -2);
            t.due("worth(0, " + p + ")", x.worth(0, p, 0), 0);
            t.due("worth(" + p + ", 0)", x.worth(p, 0, 0), 0);
            t.due("silent(" + p + ")", x.silent(p), NONE);
            t.due("best(" + p + ")", x.best(p, 0), NONE);
        }
    }

    private static void parents() {
        t.says("MOTHER, FATHER (each NONE, or one that was there, unlike ones)");
        LetterHeirs x = Checks.founders(2);
        t.due("mother below NONE", x.person(-2, 0, 0), NONE);
        t.due("father below NONE", x.person(0, -2, 0), NONE);
        t.due("himself his mother", x.person(2, NONE, 0), NONE);
        t.due("himself his father", x.person(NONE, 2, 0), NONE);
        t.due("mother 12", x.person(12, NONE, 0), NONE);
        t.due("alike", x.person(1, 1, 0), NONE);
        t.due("alike, not there", x.person(2, 2, 0), NONE);
        t.due("both NONE", x.person(NONE, NONE, 0), 2);
        t.due("the latest one his mother", x.person(2, NONE, 0), 3);
        t.due("the latest one his father", x.person(NONE, 3, 0), 4);
        t.due("unlike ones", x.person(0, 1, 0), 5);
        t.due("a child and his own", x.person(3, 2, 0), 6);
        int[][] due = {{NONE, NONE}, {2, NONE}, {NONE, 3}, {0, 1}, {3, 2}};
        for (int i = 0; i < due.length; i++) {
            t.due("MOTHER of " + (i + 2), x.of(i + 2, 0), due[i][0]);
            t.due("FATHER of " + (i + 2), x.of(i + 2, 1), due[i][1]);
        }
        Checks.bury(x, 0);
        t.due("one that was there and did not live on", x.person(0, 1, 0), 7);
        t.due("MOTHER", x.of(7, 0), 0);
    }

    private static void born() {
        t.says("BORN (the DAY on which they come)");
        LetterHeirs x = Checks.onLastDay(1);
        x.person(NONE, NONE, 0);
        t.due("on the first DAY", x.of(0, 2), 0);
        t.due("on the last DAY", x.of(1, 2), 9999);
        Checks.law(x, "heir age;");
        t.due("age of all DAYS", x.worth(1, 0, 0), 9999);
        t.due("age of none", x.worth(0, 1, 0), 0);
    }

    private static void firstValues() {
        t.says("DIES: a DAY or none (none at first), FRAIL 0 .. 9999, SKILL 0 .. 99 (0 each at first), COIN 0 .. 99999, a SPOUSE or none (none at first)");
        LetterHeirs x = Checks.founders(1);
        int[] due = {NONE, 0, 0, 100, NONE, 1};
        for (int what = 3; what < 9; what++) t.due("of(0, " + what + ")", x.of(0, what), due[what - 3]);
    }

    private static void bounds() {
        LetterHeirs x = Checks.founders(1);
        int[] most = {0, 9999, 99, 99999};
        for (int what = 1; what < 4; what++) {
            t.due("set(" + what + ") to the greatest", x.set(what, 0, most[what]), true);
            t.due("is it", x.of(0, what + 3), most[what]);
            for (int v : new int[] {most[what] + 1, -1, Integer.MIN_VALUE, Integer.MAX_VALUE}) {
                t.due("set(" + what + ") to " + v, x.set(what, 0, v), false);
                t.due("stays", x.of(0, what + 3), most[what]);
            }
            t.due("set(" + what + ") to 0", x.set(what, 0, 0), true);
            t.due("is 0", x.of(0, what + 3), 0);
        }
        t.due("COIN 0", x.person(NONE, NONE, 0), 1);
        t.due("COIN 99999", x.person(NONE, NONE, 99999), 2);
        for (int coin : new int[] {-1, 100000, Integer.MIN_VALUE, Integer.MAX_VALUE}) {
            t.due("COIN " + coin, x.person(NONE, NONE, coin), NONE);
        }
        t.due("COIN told", x.of(1, 6), 0);
        t.due("COIN told", x.of(2, 6), 99999);
    }

    private static void diesBounds() {
        t.says("DIES (-1 none, or above today, 9999 at most)");
        LetterHeirs x = Checks.founders(1);
        x.days(5);
        for (int v : new int[] {5, 4, 0, -2, 10000, Integer.MIN_VALUE, Integer.MAX_VALUE}) {
            t.due("set(0, 0, " + v + ")", x.set(0, 0, v), false);
            t.due("none still", x.of(0, 3), NONE);
        }
        t.due("tomorrow", x.set(0, 0, 6), true);
        t.due("DIES", x.of(0, 3), 6);
        t.due("on the last DAY", x.set(0, 0, 9999), true);
        t.due("DIES", x.of(0, 3), 9999);
        t.due("none", x.set(0, 0, NONE), true);
        t.due("DIES", x.of(0, 3), NONE);
        LetterHeirs y = Checks.onLastDay(1);
        t.due("today, the last DAY", y.set(0, 0, 9999), false);
        t.due("behind it", y.set(0, 0, 10000), false);
        t.due("none", y.set(0, 0, NONE), true);
    }

    private static void lives() {
        t.says("Who did not die LIVES");
        LetterHeirs x = Checks.founders(2);
        x.set(0, 0, 2);
        x.days(1);
        t.due("the DAY before", x.of(0, 8), 1);
        t.due("as a set", x.look(1), 3);
        x.days(1);
        t.due("the DAY he dies", x.of(0, 8), 0);
        t.due("as a set", x.look(1), 2);
        t.due("he is there", x.look(0), 2);
    }

    private static void letterAtFirst() {
        t.says("A LETTER has an OWNER or none (none at first), and a LOAN or none (none at first): to whom, its last DAY");
        LetterHeirs x = new LetterHeirs();
        for (int l = 0; l < 28; l++) {
            for (int what = 0; what < 3; what++) t.due("letter(" + l + ", " + what + ")", x.letter(l, what), NONE);
        }
        t.due("without an OWNER", x.look(9), ALL_LETTERS);
        t.due("LOANS", x.look(10), 0);
        x.person(NONE, NONE, 0);
        x.person(NONE, NONE, 0);
        for (int l = 0; l < 28; l++) {
            x.own(l, 0);
            x.lend(l, 1, l + 1, 0);
        }
        for (int l = 0; l < 28; l++) {
            t.due("OWNER of " + l, x.letter(l, 0), 0);
            t.due("lent to", x.letter(l, 1), 1);
            t.due("its last DAY", x.letter(l, 2), l + 1);
        }
        t.due("without an OWNER", x.look(9), 0);
        t.due("LOANS", x.look(10), 28);
    }

    private static void day() {
        t.says("DAY 0 .. 9999 (0 at first)");
        LetterHeirs x = Checks.founders(1);
        t.due("at first", x.look(2), 0);
        for (int i = 0; i < 99; i++) t.due("days(100)", x.days(100), 0);
        t.due("DAY", x.look(2), 9900);
        t.due("one too many", x.days(100), NONE);
        t.due("DAY", x.look(2), 9900);
        t.due("up to the last", x.days(99), 0);
        t.due("DAY", x.look(2), 9999);
        t.due("behind the last", x.days(1), NONE);
        t.due("far behind it", x.days(100), NONE);
        t.due("DAY", x.look(2), 9999);
        t.due("back", x.undo(), true);
        t.due("two", x.days(2), NONE);
        t.due("the last once more", x.days(1), 0);
        t.due("DAY", x.look(2), 9999);
    }

    private static void near() {
        t.says("NEAR 0 .. 3 (1 at first)");
        LetterHeirs x = new LetterHeirs();
        t.due("at first", x.look(3), 1);
        for (int v = 0; v < 4; v++) {
            t.due("set(4) to " + v, x.set(4, 0, v), true);
            t.due("NEAR", x.look(3), v);
        }
        for (int v : new int[] {-1, 4, Integer.MIN_VALUE, Integer.MAX_VALUE}) {
            t.due("set(4) to " + v, x.set(4, 0, v), false);
            t.due("NEAR", x.look(3), 3);
        }
    }

    private static void kinSteps() {
        t.says("KIN of a PERSON: the fewest steps from one to another one, each to MOTHER, FATHER, a child, his SPOUSE or one whose SPOUSE he is");
        LetterHeirs x = Checks.founders(4);
        x.person(0, 1, 0);
        x.person(4, NONE, 0);
        t.due("himself", x.kin(4, 4), 0);
        t.due("MOTHER", x.kin(4, 0), 1);
        t.due("FATHER", x.kin(4, 1), 1);
        t.due("a child of his MOTHER", x.kin(0, 4), 1);
        t.due("a child of his FATHER", x.kin(1, 4), 1);
        t.due("a child's child", x.kin(0, 5), 2);
        t.due("parents of one", x.kin(0, 1), 2);
        x.wed(2, 0);
        t.due("his SPOUSE", x.kin(2, 0), 1);
        t.due("whose SPOUSE he is", x.kin(0, 2), 1);
        t.due("over the SPOUSE", x.kin(2, 5), 3);
        x.wed(1, 3);
        x.person(2, 5, 0);
        t.due("the fewest of two ways", x.kin(2, 5), 2);
        t.due("the fewest, turned", x.kin(5, 2), 2);
        LetterHeirs y = Checks.founders(1);
        for (int p = 1; p < 12; p++) y.person(p - 1, NONE, 0);
        for (int p = 0; p < 12; p++) t.due("the longest way, to " + p, y.kin(0, p), p);
        t.due("the longest way, turned", y.kin(11, 0), 11);
    }

    private static void kinOverTheDead() {
        t.says("also over those who do not LIVE");
        LetterHeirs x = Checks.founders(3);
        x.person(0, NONE, 0);
        x.wed(1, 2);
        x.person(1, 0, 0);
        Checks.bury(x, 0);
        t.due("brothers over their dead MOTHER", x.kin(3, 4), 2);
        t.due("to her", x.kin(3, 0), 1);
        t.due("from her", x.kin(0, 4), 1);
        Checks.bury(x, 1);
        t.due("whose SPOUSE he is, who does not LIVE", x.kin(2, 1), 1);
        t.due("the SPOUSE that he kept", x.kin(1, 2), 1);
        t.due("over one whose SPOUSE she is", x.kin(2, 4), 2);
    }

    private static void kinFar() {
        t.says("99 if there is no way");
        LetterHeirs x = Checks.founders(3);
        t.due("founders", x.kin(0, 1), 99);
        x.wed(0, 1);
        t.due("by a WEDDING", x.kin(0, 1), 1);
        t.due("to another one", x.kin(0, 2), 99);
        x.part(0, 1);
        t.due("by a PARTING", x.kin(0, 1), 99);
        x.wed(0, 1);
        x.undo();
        t.due("the WEDDING undone", x.kin(1, 0), 99);
        Checks.law(x, "heir kin;");
        t.due("in THE LAW, too", x.worth(0, 2, 0), 99);
    }

    private static void canByNear() {
        t.says("if it is lent to nobody, and its OWNER LIVES and is KIN of NEAR at most (he himself: 0)");
        LetterHeirs x = Checks.founders(1);
        for (int p = 1; p < 6; p++) x.person(p - 1, NONE, 0);
        x.own(0, 0);
        int[] can = {1, 3, 7, 15};
        for (int near = 0; near < 4; near++) {
            x.set(4, 0, near);
            t.due("NEAR " + near, x.letter(0, 3), can[near]);
            for (int p = 0; p < 6; p++) t.due("NEAR " + near + ": of(" + p + ", 10)", x.of(p, 10), p <= near ? 1 : 0);
        }
    }

    private static void canByLoan() {
        t.says("One CAN write a LETTER, if he LIVES and it is lent to him");
        LetterHeirs x = Checks.founders(3);
        x.person(2, NONE, 0);
        x.wed(0, 1);
        x.own(0, 0);
        t.due("OWNER and SPOUSE", x.letter(0, 3), 3);
        x.lend(0, 2, 1, 0);
        t.due("to whom it is lent alone, not to his kin", x.letter(0, 3), 4);
        t.due("the OWNER can't", x.of(0, 10), 0);
        x.days(1);
        t.due("on the last DAY", x.letter(0, 3), 4);
        x.days(1);
        t.due("behind it", x.letter(0, 3), 3);
        x.lend(0, 2, 9, 0);
        Checks.bury(x, 0);
        t.due("the OWNER does not LIVE, there is none", x.letter(0, 0), NONE);
        t.due("to whom it is lent can", x.letter(0, 3), 4);
        Checks.bury(x, 2);
        t.due("to whom it was lent does not LIVE", x.letter(0, 3), 0);
        t.due("nothing CAN who does not LIVE", x.of(2, 10), 0);
    }

    private static void canByOwner() {
        t.says("its OWNER LIVES");
        LetterHeirs x = Checks.founders(2);
        x.wed(0, 1);
        t.due("no OWNER", x.letter(0, 3), 0);
        x.own(0, 0);
        t.due("both", x.letter(0, 3), 3);
        Checks.will(x, 0, "rest to 1;");
        Checks.bury(x, 0);
        t.due("his heir alone, no one who does not LIVE", x.letter(0, 3), 2);
        x.own(0, NONE);
        t.due("no OWNER again", x.letter(0, 3), 0);
    }
}
