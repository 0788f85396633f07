import java.util.function.Consumer;

/** 'Terms', 4. IN THOUGHT: each sentence that names a boundary case, told with its own words. */
public final class ThoughtTests {
    private static final int NONE = LetterHeirs.NONE;
    private static final int ALL_LETTERS = 268435455;
    private static final Checks t = new Checks();

    public static void main(String[] args) {
        signersFewest();
        signersLeast();
        alone();
        needed();
        weddingsHowMany();
        weddingsToday();
        weddingsFirst();
        weddingsSecond();
        whenToday();
        whenFarthest();
        whenByDeaths();
        whenDead();
        hand();
        inherit();
        inheritByNumber();
        silent();
        trace();
        value();
        best();
        bestLeast();
        full();
        dumb();
        undoEight();
        undoEach();
        undoDays();
        undoForgets();
        undoKeeps();
        imageTaken();
        imageAgain();
        imageTexts();
        imageKeeps();
        t.close("ThoughtTests");
    }

    /** Founders each of whom OWNS one LETTER, by number, and these DEEDS. */
    private static LetterHeirs owners(int n, String... deeds) {
        LetterHeirs x = Checks.founders(n);
        for (int p = 0; p < n; p++) x.own(p, p);
        for (String deed : deeds) Checks.deed(x, deed);
        return x;
    }

    private static void signersFewest() {
        t.says("SIGNERS of a DEED: the fewest PEOPLE who LIVE that together CAN write it");
        LetterHeirs x = owners(12, "z", "l", "abcdefghijkl", "al");
        t.due("nobody can", x.deed(0, 5), NONE);
        t.due("one, the last", x.deed(1, 5), 2048);
        t.due("all twelve", x.deed(2, 5), 4095);
        t.due("the first and the last", x.deed(3, 5), 2049);
        x.own(11, 0);
        t.due("one now", x.deed(3, 5), 1);
        Checks.bury(x, 5);
        t.due("one of twelve does not LIVE", x.deed(2, 5), NONE);
        x.own(5, 4);
        x.own(11, 11);
        t.due("eleven", x.deed(2, 5), 4095 - 32);
        LetterHeirs y = new LetterHeirs();
        Checks.deed(y, "a");
        t.due("nobody is there", y.deed(0, 5), NONE);
    }

    private static void signersLeast() {
        t.says("SIGNERS: the least set");
        LetterHeirs x = Checks.founders(6);
        x.wed(0, 5);
        x.wed(1, 4);
        x.own(0, 5);
        x.own(1, 4);
        x.own(2, 3);
        Checks.deed(x, "a");
        Checks.deed(x, "ab");
        Checks.deed(x, "ca");
        t.due("of two the lesser", x.deed(0, 5), 1);
        t.due("of four pairs the least", x.deed(1, 5), 3);
        t.due("with one who is needed", x.deed(2, 5), 9);
        x.own(1, 5);
        t.due("fewer before less", x.deed(1, 5), 1);
        x.own(1, 3);
        t.due("one of whom the greater set is fewer", x.deed(2, 5), 9);
        x.own(0, 3);
        t.due("one instead of a lesser two", x.deed(1, 5), 8);
    }

    private static void alone() {
        t.says("ALONE: who CAN write it alone, as a set");
        LetterHeirs x = owners(12, "a", "l", "ab", "z");
        t.due("the first", x.deed(0, 6), 1);
        t.due("the last", x.deed(1, 6), 2048);
        t.due("nobody", x.deed(2, 6), 0);
        t.due("nobody at all", x.deed(3, 6), 0);
        x.wed(0, 1);
        t.due("both", x.deed(2, 6), 3);
        LetterHeirs y = Checks.founders(1);
        for (int i = 1; i < 12; i++) y.person(0, NONE, 0);
        y.own(0, 0);
        Checks.deed(y, "a");
        t.due("all", y.deed(0, 6), 4095);
        Checks.bury(y, 3);
        t.due("who LIVES", y.deed(0, 6), 4095 - 8);
    }

    private static void needed() {
        t.says("NEEDED for a DEED: who LIVES without whom all others together could not (if they could with him)");
        LetterHeirs x = owners(4, "abc", "z", "d");
        t.due("each of three", x.deed(0, 7), 7);
        t.due("all together can't: nobody", x.deed(1, 7), 0);
        t.due("one", x.deed(2, 7), 8);
        x.wed(0, 3);
        t.due("two can: nobody of them", x.deed(2, 7), 0);
        t.due("the others are", x.deed(0, 7), 6);
        Checks.bury(x, 1);
        t.due("who does not LIVE", x.deed(0, 7), 0);
    }

    private static void weddingsAre(String name, LetterHeirs x, int person, int deed, int... due) {
        for (int what = 0; what < 5; what++) t.due(name + ": weddings(" + person + ", " + deed + ", " + what + ")", x.weddings(person, deed, what), due[what]);
    }

    private static void weddingsHowMany() {
        t.says("WEDDINGS for a PERSON and a DEED: the fewest WEDDINGS (0 to 2) that can be today (one behind the other) so that he CAN write it: which");
        LetterHeirs x = Checks.founders(6);
        x.person(0, 1, 0);
        x.set(4, 0, 2);
        x.own(0, 6);
        for (int l = 1; l < 4; l++) x.own(l, l + 1);
        Checks.deed(x, "a");
        Checks.deed(x, "b");
        Checks.deed(x, "bc");
        Checks.deed(x, "bcd");
        Checks.deed(x, "z");
        weddingsAre("none is wanted", x, 6, 0, 0, NONE, NONE, NONE, NONE);
        weddingsAre("one", x, 6, 1, 1, 0, 2, NONE, NONE);
        weddingsAre("two", x, 6, 2, 2, 0, 2, 1, 3);
        weddingsAre("three would be wanted", x, 6, 3, NONE, NONE, NONE, NONE, NONE);
        weddingsAre("no way", x, 6, 4, NONE, NONE, NONE, NONE, NONE);
    }

    private static void weddingsToday() {
        t.says("WEDDINGS that can be today");
        LetterHeirs x = owners(4, "b", "d");
        x.person(0, NONE, 0);
        x.person(1, 0, 0);
        // 5 is a child of 0 and 1, 4 of 0: he may wed neither 0 nor 5
        weddingsAre("not his MOTHER's other child: 1 himself", x, 4, 0, 1, 1, 4, NONE, NONE);
        x.wed(1, 2);
        weddingsAre("1 has a SPOUSE", x, 4, 0, NONE, NONE, NONE, NONE, NONE);
        weddingsAre("of who has a SPOUSE", x, 1, 1, NONE, NONE, NONE, NONE, NONE);
        x.part(1, 2);
        weddingsAre("parted", x, 1, 1, 1, 1, 3, NONE, NONE);
        Checks.will(x, 3, "rest to 0;");
        Checks.bury(x, 3);
        weddingsAre("3 does not LIVE: a child reaches it", x, 5, 1, 0, NONE, NONE, NONE, NONE);
        weddingsAre("3 does not LIVE", x, 3, 1, NONE, NONE, NONE, NONE, NONE);
        weddingsAre("0 OWNS it", x, 1, 1, 1, 0, 1, NONE, NONE);
    }

    private static void weddingsFirst() {
        t.says("of several the first (of the first one the lesser PERSON, then the other)");
        LetterHeirs x = Checks.founders(6);
        x.set(4, 0, 2);
        x.own(0, 5);
        Checks.deed(x, "a");
        weddingsAre("himself the lesser PERSON", x, 2, 0, 1, 2, 5, NONE, NONE);
        x.person(4, NONE, 0);
        // 6 is near by himself or by 4
        weddingsAre("by his MOTHER, the lesser one", x, 6, 0, 1, 4, 5, NONE, NONE);
        x.own(0, 2);
        weddingsAre("2 with the lesser other", x, 6, 0, 1, 2, 4, NONE, NONE);
        x.own(0, 3);
        x.wed(3, 0);
        // 4 or 6 can't wed 3, but be kin of 2 by a child of 0 only
        weddingsAre("who has it has a SPOUSE", x, 6, 0, NONE, NONE, NONE, NONE, NONE);
        x.set(4, 0, 3);
        x.person(0, 1, 0);
        // 7 is kin of 3 by 0 (2 steps); 1 by 7 and 0 (3); 6 by a wedding with 0's or 3's kin: 7 (1 + 2)
        weddingsAre("by a child of the SPOUSE", x, 6, 0, 1, 6, 7, NONE, NONE);
    }

    private static void weddingsSecond() {
        t.says("then of the second one, whose lesser PERSON is above that of the first one");
        LetterHeirs x = Checks.founders(8);
        x.person(6, 7, 0);
        x.set(4, 0, 2);
        x.own(0, 0);
        x.own(1, 1);
        Checks.deed(x, "ab");
        // 0 must wed one of 6, 7, 8, 1 another one: the lesser PERSONS are 0 and 1
        weddingsAre("0 and 1", x, 8, 0, 2, 0, 6, 1, 7);
        x.own(0, 5);
        x.own(1, 2);
        weddingsAre("2 first", x, 8, 0, 2, 2, 6, 5, 7);
        x.wed(6, 3);
        weddingsAre("without 6", x, 8, 0, 2, 2, 7, 5, 8);
        LetterHeirs y = owners(4, "bd");
        y.person(0, 2, 0);
        y.set(4, 0, 2);
        weddingsAre("each with the next one", y, 4, 0, 2, 0, 1, 2, 3);
        LetterHeirs z = owners(11, "jk");
        z.person(0, 1, 0);
        z.set(4, 0, 2);
        weddingsAre("of twelve, a child of the first two", z, 11, 0, 2, 0, 9, 1, 10);
    }

    private static void whenToday() {
        t.says("WHEN a PERSON CAN write a DEED: the first DAY from today on");
        LetterHeirs x = owners(2, "a", "b");
        x.days(3);
        t.due("today", x.whenCan(0, 0), 3);
        t.due("never", x.whenCan(0, 1), NONE);
        x.lend(0, 1, 1, 0);
        t.due("behind the last DAY of a LOAN", x.whenCan(0, 0), 5);
        t.due("lent to him: today", x.whenCan(1, 0), 3);
        x.days(1);
        t.due("on its last DAY", x.whenCan(0, 0), 5);
        x.days(1);
        t.due("behind it", x.whenCan(0, 0), 5);
        LetterHeirs y = Checks.onLastDay(2);
        y.own(0, 0);
        Checks.deed(y, "a");
        t.due("on the last DAY", y.whenCan(0, 0), 9999);
        t.due("never", y.whenCan(1, 0), NONE);
        t.due("today stays", y.look(2), 9999);
        // the document leaves open what comes behind DAY 9999: days are counted on, as those of a LOAN are
        y.lend(0, 1, 2, 0);
        t.due("behind DAY 9999", y.whenCan(0, 0), 10002);
    }

    private static void whenFarthest() {
        t.says("400 more at most");
        for (int today = 0; today < 3; today += 2) {
            LetterHeirs x = owners(2, "a");
            if (today > 0) x.days(today);
            Checks.will(x, 0, "rest to 1;");
            x.set(0, 0, today + 400);
            t.due("400 more than " + today, x.whenCan(1, 0), today + 400);
            x.set(0, 0, today + 401);
            t.due("401 more than " + today, x.whenCan(1, 0), NONE);
            x.days(1);
            t.due("400 more a DAY later", x.whenCan(1, 0), today + 401);
            x.set(0, 0, 9999);
            t.due("far", x.whenCan(1, 0), NONE);
        }
    }

    private static void whenByDeaths() {
        t.says("as people die by DIES alone");
        LetterHeirs x = owners(4, "a");
        Checks.will(x, 0, "rest to 1;");
        x.set(1, 0, 9999);
        t.due("no DRAWS", x.whenCan(1, 0), NONE);
        x.set(0, 0, 5);
        t.due("by DIES", x.whenCan(1, 0), 5);
        Checks.will(x, 1, "rest to 2;");
        x.set(0, 1, 5);
        t.due("both on one DAY, by number", x.whenCan(2, 0), 5);
        t.due("who dies that DAY himself", x.whenCan(1, 0), NONE);
        x.set(0, 2, 4);
        t.due("the heir dies before", x.whenCan(3, 0), NONE);
        Checks.law(x, "heir day-4 when age=5;");
        t.due("by THE LAW of that DAY", x.whenCan(3, 0), 5);
        t.due("STATE stays", x.look(6), 0);
        t.due("today stays", x.look(2), 0);
        t.due("all LIVE", x.look(1), 15);
    }

    private static void whenDead() {
        t.says("WHEN: NONE if not by then, or one can't be");
        LetterHeirs x = owners(2, "a");
        for (int deed : new int[] {-1, 1, 7, 8, Integer.MIN_VALUE, Integer.MAX_VALUE}) t.due("DEED " + deed, x.whenCan(0, deed), NONE);
        Checks.will(x, 0, "rest to 1;");
        Checks.bury(x, 0);
        t.due("does not LIVE", x.whenCan(0, 0), NONE);
        t.due("LIVES", x.whenCan(1, 0), 1);
    }

    private static void hand() {
        t.says("HAND: PEOPLE who CAN write all LETTERS of a set today; NONE if the set is not 1 .. 2 to the 28 less 1");
        LetterHeirs x = Checks.founders(12);
        for (int set : new int[] {0, -1, 1 << 28, 1 << 29, Integer.MIN_VALUE, Integer.MAX_VALUE}) t.due("hand(" + set + ")", x.hand(set), NONE);
        t.due("the least set, nobody", x.hand(1), 0);
        t.due("the greatest set, nobody", x.hand(ALL_LETTERS), 0);
        for (int l = 0; l < 28; l++) x.own(l, 11);
        t.due("the least set", x.hand(1), 2048);
        t.due("the greatest set", x.hand(ALL_LETTERS), 2048);
        x.own(13, 10);
        t.due("all but one", x.hand(ALL_LETTERS - (1 << 13)), 2048);
        t.due("all", x.hand(ALL_LETTERS), 0);
        t.due("that one", x.hand(1 << 13), 1024);
        Checks.bury(x, 11);
        t.due("does not LIVE", x.hand(1), 0);
    }

    private static void inherit() {
        t.says("INHERIT: the HEIR of a LETTER if a PERSON died now; NONE: nobody; 1 by THE WILL, else 0");
        LetterHeirs x = owners(3);
        t.due("nobody", x.inherit(0, 0, 0), NONE);
        t.due("not by THE WILL", x.inherit(0, 0, 1), 0);
        for (int what : new int[] {-1, 2, Integer.MIN_VALUE, Integer.MAX_VALUE}) t.due("what " + what, x.inherit(0, 0, what), -2);
        for (int what = 0; what < 2; what++) {
            t.due("another one's", x.inherit(0, 1, what), -2);
            t.due("nobody's", x.inherit(0, 5, what), -2);
        }
        x.lend(0, 1, 5, 0);
        t.due("lent, but his", x.inherit(0, 0, 0), NONE);
        t.due("lent to him, not his", x.inherit(1, 0, 0), -2);
        Checks.will(x, 0, "rest to 2;");
        t.due("by THE WILL", x.inherit(0, 0, 0), 2);
        t.due("by THE WILL", x.inherit(0, 0, 1), 1);
        x.days(1);
        Checks.law(x, "heir age when day=1;");
        x.set(0, 1, 2);
        t.due("now, not when he DIES", x.inherit(1, 1, 0), 0);
        x.days(1);
        t.due("does not LIVE", x.inherit(1, 1, 0), -2);
        x.person(NONE, NONE, 0);
        Checks.will(x, 0, "");
        Checks.law(x, "heir 1 when age<1 and skill=3 and coin=7 and owns=1;");
        t.due("nobody is as THE LAW says", x.inherit(0, 0, 0), NONE);
        x.set(2, 3, 3);
        x.set(3, 3, 7);
        x.own(5, 3);
        t.due("one is, BORN today", x.inherit(0, 0, 0), 3);
    }

    private static void inheritByNumber() {
        t.says("(all his LETTERS going by number)");
        LetterHeirs x = Checks.founders(3);
        for (int l : new int[] {27, 4, 2, 9}) x.own(l, 0);
        Checks.law(x, "heir 5-owns;");
        int[][] due = {{2, 1}, {4, 2}, {9, 1}, {27, 2}};
        for (int[] one : due) t.due("LETTER " + one[0], x.inherit(0, one[0], 0), one[1]);
        Checks.will(x, 0, "leave \"c\" to 2;");
        int[][] then = {{2, 2}, {4, 1}, {9, 1}, {27, 2}};
        for (int[] one : then) t.due("c by THE WILL, LETTER " + one[0], x.inherit(0, one[0], 0), one[1]);
        t.due("nothing stays", x.look(5), 4);
    }

    private static void silent() {
        t.says("SILENT: DEEDS that someone CAN write alone today, and nobody could, if a PERSON died now");
        LetterHeirs x = owners(3, "a", "b", "ab", "z", "a", "a", "a", "a");
        t.due("all of his", x.silent(0), 0xf1);
        t.due("the other's", x.silent(1), 2);
        t.due("none", x.silent(2), 0);
        Checks.will(x, 0, "rest to 1;");
        t.due("they go on with his heir", x.silent(0), 0);
        x.lend(0, 2, 1, 0);
        t.due("a LOAN to him ends: the OWNER can", x.silent(2), 0);
        x.own(0, 0);
        Checks.will(x, 0, "");
        x.lend(0, 2, 9, 0);
        t.due("a LOAN by him stays", x.silent(0), 0);
        Checks.will(x, 0, "rest to 1;");
        Checks.bury(x, 2);
        t.due("does not LIVE", x.silent(2), NONE);
        Checks.bury(x, 0);
        t.due("both LETTERS are 1's", x.silent(1), 0xf7);
        t.due("nothing stays", x.look(1), 2);
        LetterHeirs y = owners(1);
        t.due("no DEED", y.silent(0), 0);
    }

    private static void trace() {
        t.says("TRACE of a LETTER: its OWNERS one behind the other by THE BOOK: the i-th change; NONE if there is none such");
        LetterHeirs x = Checks.founders(2);
        t.due("no change", x.trace(0, 0), NONE);
        for (int i = 0; i < 200; i++) x.own(i % 2 * 27, i / 2 % 2);
        for (int i : new int[] {0, 1, 98, 99}) {
            t.due("of LETTER 0, " + i, x.trace(0, i), 2 * i);
            t.due("of LETTER 27, " + i, x.trace(27, i), 2 * i + 1);
        }
        for (int i : new int[] {-1, 100, 199, 200, Integer.MIN_VALUE, Integer.MAX_VALUE}) {
            t.due("of LETTER 0, " + i, x.trace(0, i), NONE);
            t.due("of LETTER 27, " + i, x.trace(27, i), NONE);
        }
        t.due("changes of LETTER 27", x.letter(27, 4), 100);
        t.due("changes of LETTER 1", x.letter(1, 4), 0);
    }

    private static void value() {
        t.says("VALUE of a LETTER: how many more (PERSON, DEED) there would be with PERSON ALONE, if all who LIVE could write that LETTER");
        LetterHeirs none = owners(3);
        t.due("no DEED", none.letter(0, 5), 0);
        LetterHeirs x = owners(12, "a", "a", "a", "a", "a", "a", "a", "a");
        t.due("eleven more of eight DEEDS", x.letter(0, 5), 88);
        t.due("a LETTER of no DEED", x.letter(1, 5), 0);
        Checks.bury(x, 11);
        t.due("who LIVES", x.letter(0, 5), 80);
        x.own(0, NONE);
        t.due("with no OWNER", x.letter(0, 5), 88);
        LetterHeirs y = owners(3, "ab", "abc");
        t.due("one who has the other LETTERS", y.letter(0, 5), 1);
        y.own(2, 1);
        t.due("and in both DEEDS", y.letter(0, 5), 2);
        t.due("a LETTER that does not do", y.letter(2, 5), 0);
        LetterHeirs z = owners(1, "a");
        t.due("all CAN write it already", z.letter(0, 5), 0);
    }

    private static void best() {
        t.says("BEST heir of a PERSON: that other one who LIVES, by whom, if he were the OWNER of all that one's LETTERS now (LOANS as they are), most DEEDS have someone ALONE");
        LetterHeirs x = owners(4, "ad", "abd", "c");
        t.due("who", x.best(0, 0), 3);
        t.due("how many", x.best(0, 1), 2);
        x.lend(3, 2, 5, 0);
        t.due("the LOAN as it is", x.best(0, 0), 2);
        t.due("how many", x.best(0, 1), 2);
        for (int what : new int[] {-1, 2, Integer.MIN_VALUE, Integer.MAX_VALUE}) t.due("what " + what, x.best(0, what), NONE);
        Checks.bury(x, 2);
        t.due("who does not LIVE is none", x.best(0, 0), 3);
        t.due("how many then", x.best(0, 1), 1);
        t.due("does not LIVE", x.best(2, 0), NONE);
        t.due("nothing stays", x.letter(0, 0), 0);
        LetterHeirs y = owners(1, "a");
        t.due("nobody else", y.best(0, 0), NONE);
        t.due("not how many either", y.best(0, 1), NONE);
        y.person(NONE, NONE, 0);
        t.due("another one", y.best(0, 0), 1);
        Checks.bury(y, 1);
        t.due("who does not LIVE", y.best(0, 0), NONE);
        t.due("not how many", y.best(0, 1), NONE);
    }

    private static void bestLeast() {
        t.says("of several the least");
        LetterHeirs x = owners(4, "a", "z");
        t.due("all alike", x.best(0, 0), 1);
        t.due("all alike, for another one", x.best(3, 0), 0);
        t.due("how many", x.best(0, 1), 1);
        LetterHeirs none = owners(3);
        t.due("no DEED", none.best(0, 0), 1);
        t.due("no DEED, how many", none.best(0, 1), 0);
        LetterHeirs y = owners(5, "ac", "ae");
        t.due("of two the lesser", y.best(0, 0), 2);
        t.due("how many", y.best(0, 1), 1);
        Checks.bury(y, 2);
        t.due("the other one", y.best(0, 0), 4);
    }

    /** Twelve PEOPLE, eight DEEDS: the last of each counts, too. */
    private static void full() {
        t.says("PEOPLE 0 .. 11; DEEDS 0 .. 7");
        LetterHeirs x = owners(12, "a", "a", "a", "a", "a", "a", "l", "kl");
        t.due("SILENT of the last PERSON", x.silent(11), 1 << 6);
        t.due("SILENT of another one", x.silent(10), 0);
        t.due("BEST heir of the last", x.best(11, 0), 10);
        t.due("how many", x.best(11, 1), 8);
        t.due("BEST heir the last", x.best(10, 0), 11);
        t.due("how many", x.best(10, 1), 8);
        t.due("VALUE", x.letter(11, 5), 12);
        t.due("HAND", x.hand(1 << 11), 2048);
        t.due("SIGNERS of the last DEED", x.deed(7, 5), 3072);
        t.due("NEEDED for it", x.deed(7, 7), 3072);
        t.due("WHEN", x.whenCan(11, 6), 0);
        t.due("WHEN of the last DEED", x.whenCan(11, 7), NONE);
        t.due("WEDDINGS of the last two", x.weddings(11, 7, 1), 10);
        t.due("WEDDINGS of the last two", x.weddings(11, 7, 2), 11);
    }

    private static void dumb() {
        t.says("DUMB: PEOPLE who LIVE and CAN write nothing, as a set");
        LetterHeirs x = new LetterHeirs();
        t.due("nobody is there", x.dumb(), 0);
        for (int p = 0; p < 12; p++) x.person(NONE, NONE, 0);
        t.due("all", x.dumb(), 4095);
        x.own(27, 11);
        t.due("all but one", x.dumb(), 2047);
        Checks.bury(x, 0);
        t.due("who LIVES", x.dumb(), 2046);
        x.lend(27, 1, 1, 0);
        t.due("who lent it can nothing", x.dumb(), 4092);
        for (int p = 1; p < 12; p++) x.own(p, p);
        t.due("nobody", x.dumb(), 0);
    }

    private static void undoEight() {
        t.says("UNDO: the latest ACT or DAY not undone yet goes back: 8 are kept");
        LetterHeirs x = owners(2);
        t.due("nothing", x.undo(), false);
        for (int i = 1; i <= 9; i++) {
            t.due("act " + i, x.give(0, i % 2), true);
            t.due("kept", x.look(8), Math.min(i, 8));
        }
        for (int i = 8; i >= 1; i--) {
            t.due("back", x.undo(), true);
            t.due("kept", x.look(8), i - 1);
            t.due("OWNER", x.letter(0, 0), i % 2);
        }
        t.due("no ninth", x.undo(), false);
        t.due("OWNER stays", x.letter(0, 0), 1);
        t.due("lines of THE BOOK", x.look(5), 3);
        t.due("a new act", x.give(0, 0), true);
        t.due("kept", x.look(8), 1);
        t.due("back", x.undo(), true);
        t.due("nothing more", x.undo(), false);
        for (int i = 0; i < 5; i++) x.give(0, i % 2);
        for (int i = 0; i < 3; i++) x.undo();
        for (int i = 0; i < 7; i++) x.give(0, (i + 1) % 2 == 0 ? 1 : 0);
        t.due("two not undone, and seven more: eight", x.look(8), 8);
    }

    /** An act and its undoing leave all as it was. */
    private static void undone(String act, LetterHeirs x, Consumer<LetterHeirs> acts) {
        LetterHeirs y = Dump.clan();
        String before = Dump.of(y);
        int kept = x.look(8);
        acts.accept(x);
        t.due(act + " is kept", x.look(8), kept + 1);
        t.due("undo() of " + act, x.undo(), true);
        t.due("all behind undo() of " + act, Dump.of(x), before);
    }

    private static void undoEach() {
        t.says("UNDO: the latest ACT goes back (STATE, THE BOOK, too)");
        undone("wed", Dump.clan(), x -> t.due("wed", x.wed(3, 6), true));
        undone("part", Dump.clan(), x -> t.due("part", x.part(0, 1), true));
        undone("lend", Dump.clan(), x -> t.due("lend", x.lend(0, 3, 5, 7), true));
        undone("give", Dump.clan(), x -> t.due("give", x.give(0, 3), true));
        undone("duel", Dump.clan(), x -> t.due("duel", x.duel(3, 0, 1) != NONE, true));
        undone("sign", Dump.clan(), x -> t.due("sign", x.sign(0, 8) != NONE, true));
        undone("sign of a DEED not yet SIGNED", Dump.clan(), x -> t.due("sign", x.sign(1, 8) != NONE, true));
        undone("days(1)", Dump.clan(), x -> t.due("days", x.days(1), 2));
    }

    private static void undoDays() {
        t.says("UNDO: the latest DAY goes back");
        LetterHeirs x = Checks.founders(3);
        x.own(0, 0);
        x.own(1, 1);
        x.wed(0, 1);
        x.lend(0, 2, 1, 10);
        Checks.will(x, 0, "rest to 2;");
        x.set(0, 0, 2);
        x.set(1, 1, 564);
        x.state(0);
        t.due("two DAYS: both die", x.days(2), 2);
        t.due("each DAY alone", x.look(8), 2);
        t.due("1 died on the first", x.of(1, 3), 1);
        t.due("OWNER of a", x.letter(0, 0), 2);
        x.undo();
        t.due("DAY", x.look(2), 1);
        t.due("0 LIVES", x.look(1), 5);
        t.due("his LETTER", x.letter(0, 0), 0);
        t.due("its LOAN", x.letter(0, 1), 2);
        t.due("lines", x.look(5), 3);
        t.due("STATE of the first DAY", x.look(6), 1013904223);
        x.undo();
        t.due("DAY", x.look(2), 0);
        t.due("all LIVE", x.look(1), 7);
        t.due("DIES by a DRAW", x.of(1, 3), NONE);
        t.due("DIES as it was told", x.of(0, 3), 2);
        t.due("SPOUSE", x.of(0, 7), 1);
        t.due("and his", x.of(1, 7), 0);
        t.due("STATE", x.look(6), 0);
        t.due("no more", x.undo(), false);
        x.days(100);
        for (int i = 0; i < 8; i++) t.due("of a hundred DAYS eight", x.undo(), true);
        t.due("no ninth", x.undo(), false);
        t.due("DAY", x.look(2), 92);
    }

    private static void forgets(String call, Consumer<LetterHeirs> calls, boolean due) {
        LetterHeirs x = Dump.clan();
        int kept = x.look(8);
        calls.accept(x);
        t.due(call + " keeps", x.look(8), due ? 0 : kept);
        t.due("undo() behind " + call, x.undo(), !due);
    }

    private static void undoForgets() {
        t.says("whatever else is told but texts (the taking of THE IMAGE does not) forgets them");
        forgets("state", x -> x.state(3), true);
        forgets("state as it is", x -> x.state(x.look(6)), true);
        forgets("person", x -> x.person(NONE, NONE, 0), true);
        for (int what = 0; what < 5; what++) {
            int which = what;
            forgets("set(" + what + ")", x -> x.set(which, 0, 3), true);
        }
        forgets("set to what it is", x -> x.set(2, 0, x.of(0, 5)), true);
        forgets("own", x -> x.own(0, 3), true);
        forgets("own by who owns it", x -> x.own(0, 0), true);
        forgets("own by none that has none", x -> x.own(20, NONE), true);
        forgets("going back to THE IMAGE", x -> {
            x.image(true);
            x.image(false);
        }, true);
    }

    private static void undoKeeps() {
        forgets("feed", x -> x.feed(0, 0, 0, 0, 0), false);
        forgets("end", x -> x.end(0), false);
        forgets("THE LAW", x -> Checks.law(x, "heir 1;"), false);
        forgets("THE WILL", x -> Checks.will(x, 0, "rest to 1;"), false);
        forgets("A DEED", x -> Checks.deed(x, "a"), false);
        forgets("a FAULT", x -> Checks.deed(x, "?"), false);
        forgets("a text that can't be", x -> x.text(9, 0), false);
        forgets("the taking of THE IMAGE", x -> x.image(true), false);
        forgets("a question", x -> x.best(0, 0), false);
        forgets("state can't be refused, but person", x -> x.person(9, 9, 0), false);
        forgets("set refused", x -> x.set(1, 0, -1), false);
        forgets("own refused", x -> x.own(28, 0), false);
        forgets("an act refused", x -> x.give(20, 0), false);
        forgets("days refused", x -> x.days(101), false);
        LetterHeirs x = Dump.clan();
        x.image(false);
        t.due("no IMAGE to go back to", x.look(8) > 0, true);
        Checks.law(x, "heir 9;heir 8;heir 7;");
        int deed = Checks.deed(x, "zz");
        Checks.will(x, 3, "rest to 0;rest to 1;rest to 0;");
        while (x.undo()) t.due("texts told since stay: THE LAW", x.look(7), 3);
        t.due("A DEED", x.deed(deed, 1), 2);
        t.due("THE WILL", x.of(3, 11), 3);
        LetterHeirs y = owners(2, "a");
        y.sign(0, 1);
        Checks.deed(y, "b");
        y.sign(1, 1);
        y.undo();
        y.undo();
        t.due("a DEED told since stays", y.look(4), 2);
        t.due("not SIGNED", y.deed(1, 2), 0);
        t.due("nor the first", y.deed(0, 2), 0);
    }

    private static void imageTaken() {
        t.says("THE IMAGE: all that is and was told but the TAPE, fault() and what can be undone (nothing then), as it was when it was taken");
        LetterHeirs x = Dump.clan();
        t.due("none yet", x.image(false), false);
        t.due("taken", x.image(true), true);
        x.person(0, 3, 5);
        x.wed(3, 6);
        x.own(1, 6);
        x.own(20, 3);
        x.set(4, 0, 3);
        for (int what = 1; what < 4; what++) x.set(what, 4, 77);
        x.set(0, 4, 4000);
        x.state(123);
        x.part(0, 1);
        x.sign(0, 8);
        x.sign(1, 8);
        x.lend(0, 3, 50, 0);
        x.days(20);
        Checks.law(x, "heir 3*3+day when age<5 and not kin=2;heir skill-1;heir 4;");
        Checks.will(x, 0, "leave \".\" to 6;rest to 1;rest to 2;");
        Checks.will(x, 3, "rest to 0 if 1;");
        Checks.deed(x, "xyz");
        t.due("gone back to", x.image(false), true);
        t.due("nothing can be undone", x.undo(), false);
        LetterHeirs y = Dump.clan();
        y.state(y.look(6));
        t.due("all as it was", Dump.of(x), Dump.of(y));
    }

    private static void imageAgain() {
        t.says("gone back to it may be more than once");
        LetterHeirs x = owners(2);
        x.days(2);
        x.image(true);
        for (int i = 0; i < 3; i++) {
            x.days(4 + i);
            x.give(0, 1);
            x.set(0, 0, 50 + i);
            t.due("back", x.image(false), true);
            t.due("DAY", x.look(2), 2);
            t.due("OWNER", x.letter(0, 0), 0);
            t.due("DIES", x.of(0, 3), NONE);
            t.due("lines", x.look(5), 2);
        }
        x.days(1);
        t.due("taken anew", x.image(true), true);
        x.days(1);
        t.due("back", x.image(false), true);
        t.due("to the later one", x.look(2), 3);
        x.days(1);
        x.image(true);
        x.undo();
        t.due("taken, then undone", x.look(2), 3);
        x.image(false);
        t.due("as it was when it was taken", x.look(2), 4);
        x.give(0, 1);
        x.image(true);
        x.undo();
        x.give(1, 0);
        t.due("another line since", x.book(2, 0), 1);
        x.image(false);
        t.due("the line as it was", x.book(2, 0), 0);
        t.due("the OWNER as it was", x.letter(1, 0), 1);
    }

    private static void imageTexts() {
        t.says("THE IMAGE: all that is and was told");
        LetterHeirs x = owners(4);
        Checks.will(x, 0, "rest to 1 if 2;rest to 3 if 2;leave \"a\" to 3;");
        Checks.law(x, "heir 5 when letter=1;heir 6 when letter=2 or letter=3;heir 7;");
        Checks.deed(x, "abc");
        x.image(true);
        Checks.will(x, 0, "leave \"b\" to 2;rest to 2;");
        Checks.law(x, "heir 1*2*3*4*5 when 1=2 and 2=3 or day>5;");
        Checks.deed(x, "zzzz");
        x.sign(1, 1);
        x.image(false);
        t.due("THE WILL", x.inherit(0, 0, 0), 1);
        t.due("its lines", x.of(0, 11), 3);
        for (int l = 0; l < 5; l++) t.due("THE LAW for " + l, x.worth(0, 1, l), l == 1 ? 5 : l == 2 || l == 3 ? 6 : 7);
        t.due("DEEDS", x.look(4), 1);
        t.due("the next DEED", Checks.deed(x, "y"), 1);
        t.due("its LETTERS", x.deed(1, 0), 1 << 24);
        t.due("its signs", x.deed(1, 1), 1);
        t.due("not SIGNED", x.deed(1, 2), 0);
        Checks.bury(x, 2);
        t.due("the other N, too", x.inherit(0, 0, 0), 3);
        x.image(false);
        t.due("he LIVES again", x.inherit(0, 0, 0), 1);
        t.due("DEEDS again", x.look(4), 1);
    }

    private static void imageKeeps() {
        t.says("all .. but the TAPE, fault()");
        LetterHeirs x = owners(2);
        Checks.law(x, "heir ?");
        x.feed(0x61626364, 0x20202020, 0x20202020, 0x20202020, 0x20202020);
        x.end(4);
        x.image(true);
        t.due("the TAPE stays by the taking", x.end(4), true);
        t.due("FAULT stays", x.fault(1), 5);
        t.due("the TAPE is told as A DEED", x.text(2, 0), 0);
        Checks.law(x, "heir 1/0;");
        x.feed(0x65652020, 0x20202020, 0x20202020, 0x20202020, 0x20202020);
        x.end(2);
        x.image(false);
        t.due("the later FAULT", x.fault(0), 2);
        t.due("its place", x.fault(1), 7);
        t.due("the later TAPE has not four", x.end(3), false);
        t.due("but two", x.end(2), true);
        t.due("it is told", x.text(2, 0), 0);
        t.due("as it is", x.deed(0, 0), 16);
    }
}
