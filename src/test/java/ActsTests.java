/** 'Terms', 3. ACTS: each sentence that names a boundary case, told with its own words. */
public final class ActsTests {
    private static final int NONE = LetterHeirs.NONE;
    private static final int ALL_LETTERS = 268435455;
    private static final Checks t = new Checks();

    public static void main(String[] args) {
        weddingOfTwo();
        weddingWithoutSpouse();
        weddingOfKin();
        parting();
        loanOfOwner();
        loanDays();
        loanCoins();
        loanBeyond();
        gift();
        duelOfTwo();
        duelSkills();
        duelLoan();
        signingSet();
        signingForged();
        signingAnew();
        deathLetters();
        deathLoans();
        deathSpouse();
        dayLoans();
        dayDies();
        dayFrail();
        dayFrailEdges();
        dayByNumber();
        dayOrder();
        bookChanges();
        bookHow();
        bookFull();
        bookFullByDeath();
        t.close("ActsTests");
    }

    private static void weddingOfTwo() {
        t.says("A WEDDING of two unlike PEOPLE who LIVE");
        LetterHeirs x = Checks.founders(12);
        t.due("alike", x.wed(0, 0), false);
        t.due("no SPOUSE by it", x.of(0, 7), NONE);
        t.due("the first and the last", x.wed(11, 0), true);
        t.due("his", x.of(0, 7), 11);
        t.due("and his", x.of(11, 7), 0);
        Checks.bury(x, 1);
        t.due("one does not LIVE", x.wed(1, 2), false);
        t.due("the other does not LIVE", x.wed(2, 1), false);
        t.due("no SPOUSE by it", x.of(2, 7), NONE);
        t.due("both LIVE", x.wed(2, 3), true);
    }

    private static void weddingWithoutSpouse() {
        t.says("and have no SPOUSE");
        LetterHeirs x = Checks.founders(4);
        x.wed(0, 1);
        t.due("again", x.wed(0, 1), false);
        t.due("one has one", x.wed(1, 2), false);
        t.due("the other has one", x.wed(2, 1), false);
        t.due("his SPOUSE stays", x.of(1, 7), 0);
        x.part(0, 1);
        t.due("parted", x.wed(1, 2), true);
        Checks.bury(x, 2);
        t.due("his SPOUSE died", x.wed(3, 1), true);
        t.due("his", x.of(3, 7), 1);
        t.due("who died keeps him", x.of(2, 7), 1);
        x.part(1, 3);
        x.undo();
        t.due("the PARTING undone", x.wed(0, 3), false);
    }

    private static void weddingOfKin() {
        t.says("who are not parent and child, nor have a parent in common");
        LetterHeirs x = Checks.founders(5);
        x.person(0, 1, 0);
        x.person(1, 2, 0);
        x.person(NONE, 2, 0);
        x.person(0, NONE, 0);
        x.person(5, 3, 0);
        int[][] not = {{0, 5}, {1, 5}, {1, 6}, {2, 6}, {2, 7}, {0, 8}, {5, 9}, {3, 9}, {5, 8}, {5, 6}, {6, 7}};
        for (int[] pair : not) {
            t.due("wed(" + pair[0] + ", " + pair[1] + ")", x.wed(pair[0], pair[1]), false);
            t.due("wed(" + pair[1] + ", " + pair[0] + ")", x.wed(pair[1], pair[0]), false);
        }
        int[][] may = {{0, 9}, {1, 9}, {8, 9}, {6, 9}, {0, 6}, {0, 7}, {5, 7}, {6, 8}, {7, 8}, {0, 1}, {0, 4}, {4, 9}};
        for (int[] pair : may) {
            t.due("wed(" + pair[0] + ", " + pair[1] + ")", x.wed(pair[0], pair[1]), true);
            x.undo();
            t.due("wed(" + pair[1] + ", " + pair[0] + ")", x.wed(pair[1], pair[0]), true);
            x.undo();
        }
        Checks.bury(x, 0);
        t.due("a dead parent in common", x.wed(5, 8), false);
    }

    private static void parting() {
        t.says("A PARTING of two who are each other's SPOUSE");
        LetterHeirs x = Checks.founders(5);
        x.wed(0, 1);
        x.wed(2, 3);
        int[][] not = {{0, 0}, {0, 2}, {1, 3}, {0, 4}, {4, 0}, {4, 4}, {0, NONE}, {NONE, 4}, {NONE, NONE}};
        for (int[] pair : not) t.due("part(" + pair[0] + ", " + pair[1] + ")", x.part(pair[0], pair[1]), false);
        t.due("turned", x.part(1, 0), true);
        t.due("none", x.of(0, 7), NONE);
        t.due("nor he", x.of(1, 7), NONE);
        t.due("once more", x.part(1, 0), false);
        Checks.bury(x, 2);
        t.due("he is his SPOUSE, not the other way", x.part(2, 3), false);
        t.due("turned", x.part(3, 2), false);
        x.wed(3, 4);
        t.due("from who was it before", x.part(3, 2), false);
        t.due("from who is it now", x.part(3, 4), true);
        t.due("KIN of who was it before", x.kin(3, 2), 1);
        t.due("KIN of who was it now", x.kin(3, 4), 99);
    }

    private static void loanOfOwner() {
        t.says("A LOAN: the OWNER (who LIVES) lends a LETTER that is lent to nobody to another one who LIVES");
        LetterHeirs x = Checks.founders(4);
        x.own(0, 0);
        x.own(1, 0);
        t.due("no OWNER", x.lend(2, 1, 1, 0), false);
        t.due("to himself", x.lend(0, 0, 1, 0), false);
        Checks.bury(x, 3);
        t.due("to who does not LIVE", x.lend(0, 3, 1, 0), false);
        t.due("LOANS", x.look(10), 0);
        t.due("to another one", x.lend(0, 1, 1, 0), true);
        t.due("lent already", x.lend(0, 2, 1, 0), false);
        t.due("lent to him already", x.lend(0, 1, 1, 0), false);
        t.due("to whom", x.letter(0, 1), 1);
        x.days(1);
        t.due("on its last DAY", x.lend(0, 2, 1, 0), false);
        x.days(1);
        t.due("behind it", x.lend(0, 2, 9, 0), true);
        Checks.bury(x, 0);
        t.due("the OWNER died", x.lend(1, 2, 1, 0), false);
        t.due("the LOAN stays without an OWNER", x.letter(0, 1), 2);
        t.due("no OWNER lends it", x.lend(0, 1, 1, 0), false);
    }

    private static void loanDays() {
        t.says("for n DAYS (1 .. 99); its last DAY is today and n");
        LetterHeirs x = Checks.founders(2);
        x.own(0, 0);
        x.own(1, 0);
        x.days(7);
        for (int n : new int[] {0, -1, 100, Integer.MIN_VALUE, Integer.MAX_VALUE}) {
            t.due(n + " DAYS", x.lend(0, 1, n, 0), false);
            t.due("no LOAN", x.letter(0, 1), NONE);
        }
        t.due("1 DAY", x.lend(0, 1, 1, 0), true);
        t.due("its last DAY", x.letter(0, 2), 8);
        t.due("99 DAYS", x.lend(1, 1, 99, 0), true);
        t.due("its last DAY", x.letter(1, 2), 106);
    }

    private static void loanCoins() {
        t.says("for so many coins: these go from COIN to COIN, at once; coins 0 .. COIN of who borrows; COIN would be above 99999");
        LetterHeirs x = Checks.founders(2);
        for (int l = 0; l < 6; l++) x.own(l, 0);
        for (int coins : new int[] {-1, 101, Integer.MIN_VALUE, Integer.MAX_VALUE}) {
            t.due(coins + " coins", x.lend(0, 1, 1, coins), false);
            t.due("COIN of who borrows", x.of(1, 6), 100);
            t.due("COIN of the OWNER", x.of(0, 6), 100);
        }
        t.due("no coin", x.lend(0, 1, 1, 0), true);
        t.due("COIN of who borrows", x.of(1, 6), 100);
        t.due("1 coin", x.lend(1, 1, 1, 1), true);
        t.due("COIN of who borrows", x.of(1, 6), 99);
        t.due("COIN of the OWNER", x.of(0, 6), 101);
        t.due("all his coins", x.lend(2, 1, 1, 99), true);
        t.due("COIN of who borrows", x.of(1, 6), 0);
        t.due("COIN of the OWNER", x.of(0, 6), 200);
        t.due("a coin that he has not", x.lend(3, 1, 1, 1), false);
        t.due("none of none", x.lend(3, 1, 1, 0), true);
        x.set(3, 1, 99999);
        t.due("above 99999", x.lend(4, 1, 1, 99800), false);
        t.due("just 99999", x.lend(4, 1, 1, 99799), true);
        t.due("COIN of the OWNER", x.of(0, 6), 99999);
        t.due("COIN of who borrows", x.of(1, 6), 200);
        t.due("one above", x.lend(5, 1, 1, 1), false);
        t.due("none above", x.lend(5, 1, 1, 0), true);
    }

    private static void loanBeyond() {
        t.says("its last DAY is today and n");
        LetterHeirs x = Checks.onLastDay(2);
        x.own(0, 0);
        t.due("on the last DAY", x.lend(0, 1, 99, 0), true);
        t.due("today and n", x.letter(0, 2), 10098);
    }

    private static void gift() {
        t.says("A GIFT: the OWNER (who LIVES) gives a LETTER that is lent to nobody to another one who LIVES");
        LetterHeirs x = Checks.founders(4);
        x.own(0, 0);
        Checks.bury(x, 3);
        t.due("no OWNER", x.give(1, 1), false);
        t.due("to himself", x.give(0, 0), false);
        t.due("to who does not LIVE", x.give(0, 3), false);
        t.due("OWNER still", x.letter(0, 0), 0);
        t.due("to another one", x.give(0, 1), true);
        t.due("OWNER then", x.letter(0, 0), 1);
        t.due("and back", x.give(0, 0), true);
        x.lend(0, 1, 1, 0);
        t.due("lent to him", x.give(0, 1), false);
        t.due("lent", x.give(0, 2), false);
        x.days(1);
        t.due("on its last DAY", x.give(0, 2), false);
        x.days(1);
        t.due("behind it", x.give(0, 2), true);
        Checks.bury(x, 2);
        t.due("its OWNER died", x.give(0, 0), false);
    }

    private static void duelOfTwo() {
        t.says("A DUEL of two unlike PEOPLE who LIVE over a LETTER that one of them OWNS");
        LetterHeirs x = Checks.founders(4);
        x.own(0, 0);
        Checks.bury(x, 3);
        int[][] not = {{0, 0}, {1, 2}, {2, 1}, {0, 3}, {3, 0}};
        for (int[] pair : not) t.due("duel(" + pair[0] + ", " + pair[1] + ")", x.duel(pair[0], pair[1], 0), NONE);
        t.due("no OWNER", x.duel(0, 1, 1), NONE);
        t.due("no DRAW", x.look(6), 0);
        t.due("the first one OWNS it", x.duel(0, 1, 0) != NONE, true);
        x.own(0, 0);
        t.due("the other one OWNS it", x.duel(1, 0, 0) != NONE, true);
    }

    private static void duelSkills() {
        t.says("a DRAW of SKILL of both added and 2: below SKILL and 1 of the first one he wins, else the other one: the LETTER is the winner's");
        // from STATE 0 the 24 bits are 3960563: modulo 2 is 1, modulo 3 is 2, modulo 10 is 3, modulo 101 is 50, modulo 200 is 163
        int[][] duels = {{0, 0, 1}, {1, 0, 1}, {0, 1, 1}, {3, 5, 0}, {2, 6, 1}, {50, 49, 0}, {49, 50, 1}, {99, 99, 1}};
        for (int[] duel : duels) {
            for (int owner = 0; owner < 2; owner++) {
                LetterHeirs x = Checks.founders(2);
                x.own(0, owner);
                x.set(2, 0, duel[0]);
                x.set(2, 1, duel[1]);
                x.state(0);
                String call = "SKILL " + duel[0] + " and " + duel[1] + ", OWNER " + owner;
                t.due(call, x.duel(0, 1, 0), duel[2]);
                t.due(call + ": OWNER then", x.letter(0, 0), duel[2]);
                t.due(call + ": one DRAW", x.look(6), 1013904223);
                t.due(call + ": a line of a change alone", x.look(5), owner == duel[2] ? 1 : 2);
            }
        }
    }

    private static void duelLoan() {
        t.says("(a LOAN of it ends)");
        for (int winner = 0; winner < 2; winner++) {
            LetterHeirs x = Checks.founders(3);
            x.own(0, 0);
            x.own(1, 0);
            x.set(2, winner, 99);
            x.lend(0, 2, 9, 0);
            x.lend(1, 2, 9, 0);
            x.state(5);
            t.due("the winner", x.duel(0, 1, 0), winner);
            t.due("no LOAN", x.letter(0, 1), NONE);
            t.due("no last DAY", x.letter(0, 2), NONE);
            t.due("another one's stays", x.letter(1, 1), 2);
        }
    }

    private static void signingSet() {
        t.says("A SIGNING of a DEED by a set of PEOPLE (one at least); one of them does not LIVE");
        LetterHeirs x = Checks.founders(3);
        Checks.deed(x, "a");
        t.due("nobody", x.sign(0, 0), NONE);
        t.due("one who is not there", x.sign(0, 8), NONE);
        t.due("one of four is not there", x.sign(0, 15), NONE);
        for (int set : new int[] {-1, Integer.MIN_VALUE, Integer.MAX_VALUE, 1 << 31 | 1, 1 << 12}) t.due("the set " + set, x.sign(0, set), NONE);
        for (int deed : new int[] {-1, 1, 7, 8, Integer.MIN_VALUE, Integer.MAX_VALUE}) t.due("DEED " + deed, x.sign(deed, 1), NONE);
        t.due("not SIGNED", x.deed(0, 2), 0);
        t.due("no DAY", x.deed(0, 4), NONE);
        t.due("one", x.sign(0, 4), 1);
        t.due("SIGNED", x.deed(0, 2), 4);
        t.due("all", x.sign(0, 7), 1);
        Checks.bury(x, 1);
        t.due("one who does not LIVE", x.sign(0, 2), NONE);
        t.due("one of them does not LIVE", x.sign(0, 7), NONE);
        t.due("all who LIVE", x.sign(0, 5), 1);
        LetterHeirs y = Checks.founders(12);
        for (int d = 0; d < 8; d++) Checks.deed(y, "a");
        t.due("all twelve, the last DEED", y.sign(7, 4095), 1);
        t.due("SIGNED", y.deed(7, 2), 4095);
        t.due("the twelfth", y.sign(0, 2048), 1);
        t.due("a thirteenth", y.sign(0, 4096), NONE);
    }

    private static void signingForged() {
        t.says("FORGED: the LETTERS of it that none of them CAN write today");
        LetterHeirs x = Checks.founders(3);
        for (int l = 0; l < 28; l++) x.own(l, l % 2);
        Checks.deed(x, "abcdefghijklmnopqrstuvwxyz.,");
        Checks.deed(x, "aab");
        t.due("none of all", x.sign(0, 4), ALL_LETTERS);
        t.due("half of all", x.sign(0, 1), 0xaaaaaaa);
        t.due("the other half", x.sign(0, 6), 0x5555555);
        t.due("no LETTER", x.sign(0, 3), 0);
        t.due("LETTERS of it alone", x.sign(1, 4), 3);
        x.lend(0, 2, 1, 0);
        t.due("with a LOAN", x.sign(1, 4), 2);
        t.due("without it", x.sign(1, 1), 3);
        x.days(2);
        t.due("today", x.sign(1, 4), 3);
    }

    private static void signingAnew() {
        t.says("It is SIGNED by them on that DAY (told anew: anew)");
        LetterHeirs x = Checks.founders(2);
        x.own(0, 0);
        Checks.deed(x, "a");
        Checks.deed(x, "a");
        int[] first = {0, 0, NONE};
        for (int what = 2; what < 5; what++) t.due("deed(0, " + what + ") not yet SIGNED", x.deed(0, what), first[what - 2]);
        x.sign(0, 1);
        int[] signed = {1, 0, 0};
        for (int what = 2; what < 5; what++) t.due("deed(0, " + what + ")", x.deed(0, what), signed[what - 2]);
        for (int what = 2; what < 5; what++) t.due("the other, deed(1, " + what + ")", x.deed(1, what), first[what - 2]);
        x.days(3);
        x.sign(0, 2);
        int[] anew = {2, 1, 3};
        for (int what = 2; what < 5; what++) t.due("deed(0, " + what + ") anew", x.deed(0, what), anew[what - 2]);
        x.own(0, 1);
        t.due("as it was then", x.deed(0, 3), 1);
    }

    private static void deathLetters() {
        t.says("A DEATH: who dies leaves each LETTER that he OWNS, by number, to its HEIR (nobody: no OWNER)");
        LetterHeirs x = Checks.founders(4);
        for (int l : new int[] {27, 0, 13, 5}) x.own(l, 0);
        x.own(1, 1);
        Checks.will(x, 0, "leave \"n\" to 3;");
        Checks.law(x, "heir 2-owns;");
        Checks.bury(x, 0);
        // a: 2 and 3 are worth 2, 1 is worth 1; f: 3; n: by THE WILL; comma: 1 and 2 own one each
        int[][] lines = {{0, 0, 2, 1, 4}, {5, 0, 3, 1, 4}, {13, 0, 3, 1, 3}, {27, 0, 1, 1, 4}};
        for (int i = 0; i < 4; i++) {
            for (int what = 0; what < 5; what++) t.due("line " + (5 + i) + ", " + what, x.book(5 + i, what), lines[i][what]);
        }
        t.due("lines", x.look(5), 9);
        t.due("he OWNS nothing", x.of(0, 9), 0);
        Checks.law(x, "");
        Checks.bury(x, 1);
        t.due("nobody", x.letter(1, 0), NONE);
        t.due("to NONE", x.book(9, 2), NONE);
        t.due("at a DEATH", x.book(9, 4), 4);
    }

    private static void deathLoans() {
        t.says("a LOAN stays, but that to who dies ends");
        LetterHeirs x = Checks.founders(3);
        x.own(0, 0);
        x.own(1, 1);
        x.own(2, 0);
        x.lend(0, 1, 9, 0);
        x.lend(1, 0, 9, 0);
        x.lend(2, 2, 9, 0);
        Checks.will(x, 0, "leave \"a\" to 1;");
        Checks.bury(x, 0);
        t.due("a LOAN by him stays, though he is the heir", x.letter(0, 1), 1);
        t.due("its last DAY", x.letter(0, 2), 9);
        t.due("that to him ends", x.letter(1, 1), NONE);
        t.due("no last DAY", x.letter(1, 2), NONE);
        t.due("the OWNER stays", x.letter(1, 0), 1);
        t.due("a LOAN stays without an OWNER", x.letter(2, 1), 2);
        t.due("no OWNER", x.letter(2, 0), NONE);
        t.due("LOANS", x.look(10), 2);
    }

    private static void deathSpouse() {
        t.says("his SPOUSE has none then, he keeps it");
        LetterHeirs x = Checks.founders(3);
        x.wed(0, 1);
        Checks.bury(x, 0);
        t.due("none then", x.of(1, 7), NONE);
        t.due("he keeps it", x.of(0, 7), 1);
        x.wed(1, 2);
        Checks.bury(x, 2);
        t.due("none again", x.of(1, 7), NONE);
        t.due("he keeps it, too", x.of(2, 7), 1);
        t.due("the first one still", x.of(0, 7), 1);
        Checks.bury(x, 1);
        t.due("who had none", x.of(1, 7), NONE);
        t.due("the first one still", x.of(0, 7), 1);
        LetterHeirs y = Checks.founders(2);
        y.wed(0, 1);
        y.set(0, 0, 1);
        y.set(0, 1, 1);
        y.days(1);
        t.due("both on one DAY: the first keeps it", y.of(0, 7), 1);
        t.due("the second has none", y.of(1, 7), NONE);
    }

    private static void dayLoans() {
        t.says("A DAY ends: DAY is one more. LOANS whose last DAY is behind end");
        LetterHeirs x = Checks.founders(2);
        for (int l = 0; l < 3; l++) {
            x.own(l, 0);
            x.lend(l, 1, l + 1, 0);
        }
        for (int day = 1; day < 6; day++) {
            x.days(1);
            t.due("DAY", x.look(2), day);
            for (int l = 0; l < 3; l++) t.due("LOAN of " + l + " on DAY " + day, x.letter(l, 1), day <= l + 1 ? 1 : NONE);
        }
        LetterHeirs y = Checks.founders(12);
        for (int l = 0; l < 28; l++) {
            y.own(l, 5);
            if (l % 12 != 5) y.lend(l, l % 12, 1, 0);
        }
        t.due("to each one, the first and the last, too", y.look(10), 26);
        y.days(1);
        t.due("on the last DAY", y.look(10), 26);
        y.days(1);
        t.due("behind it", y.look(10), 0);
    }

    private static void dayDies() {
        t.says("Then, by number, who LIVED and whose DIES is that DAY dies");
        LetterHeirs x = Checks.founders(3);
        x.set(0, 0, 3);
        x.set(0, 1, 4);
        t.due("two DAYS before", x.days(2), 0);
        t.due("that DAY", x.days(1), 1);
        t.due("who LIVES", x.look(1), 6);
        t.due("the next one's", x.days(1), 1);
        t.due("who LIVES", x.look(1), 4);
        t.due("nobody", x.days(9), 0);
        t.due("no DRAW", x.look(6), 0);
        t.due("DIES stays", x.of(0, 3), 3);
        LetterHeirs y = Checks.founders(12);
        for (int p = 0; p < 12; p++) y.set(0, p, 1);
        t.due("all on one DAY", y.days(1), 12);
        t.due("nobody LIVES", y.look(1), 0);
        t.due("nobody is left to die", y.days(100), 0);
        LetterHeirs z = Checks.founders(1);
        z.set(0, 0, 9999);
        for (int i = 0; i < 99; i++) z.days(100);
        t.due("before the last DAY", z.days(98), 0);
        t.due("on the last DAY", z.days(1), 1);
    }

    private static void dayFrail() {
        t.says("who else LIVES and has FRAIL above 0: a DRAW of 10000: below FRAIL his DIES is that DAY, and he dies");
        // from STATE 0 the 24 bits are 3960563: modulo 10000 is 563
        int[][] cases = {{0, 0, 0}, {1, 0, 1}, {562, 0, 1}, {563, 0, 1}, {564, 1, 1}, {9999, 1, 1}};
        for (int[] one : cases) {
            LetterHeirs x = Checks.founders(1);
            x.set(1, 0, one[0]);
            t.due("FRAIL " + one[0], x.days(1), one[1]);
            t.due("DRAWS by FRAIL " + one[0], x.look(6), one[2] == 0 ? 0 : 1013904223);
            t.due("LIVES by FRAIL " + one[0], x.of(0, 8), 1 - one[1]);
            t.due("DIES by FRAIL " + one[0], x.of(0, 3), one[1] == 1 ? 1 : NONE);
        }
        LetterHeirs x = Checks.founders(1);
        x.set(1, 0, 9999);
        x.set(0, 0, 1);
        t.due("DIES is that DAY", x.days(1), 1);
        t.due("no DRAW of him", x.look(6), 0);
        LetterHeirs y = Checks.founders(1);
        y.set(1, 0, 9999);
        y.set(0, 0, 7);
        t.due("DIES is another DAY", y.days(1), 1);
        t.due("DIES is that DAY then", y.of(0, 3), 1);
        t.due("who does not LIVE is not drawn", y.days(1), 0);
        t.due("one DRAW", y.look(6), 1013904223);
    }

    /** The least STATE from 0 on whose next DRAW of 10000 is that number. */
    private static int stateBefore(int drawn) {
        for (int state = 0; state < 10000000; state++) {
            if (((state * 1664525 + 1013904223) >>> 8) % 10000 == drawn) return state;
        }
        return NONE;
    }

    private static void dayFrailEdges() {
        t.says("a DRAW of 10000: below FRAIL");
        for (int drawn : new int[] {0, 1, 9998, 9999}) {
            for (int frail : new int[] {1, 2, 9998, 9999}) {
                LetterHeirs x = Checks.founders(1);
                x.set(1, 0, frail);
                x.state(stateBefore(drawn));
                t.due("drawn " + drawn + ", FRAIL " + frail, x.days(1), drawn < frail ? 1 : 0);
            }
        }
    }

    private static void dayByNumber() {
        t.says("by number");
        LetterHeirs x = Checks.founders(3);
        x.own(0, 0);
        for (int p = 0; p < 3; p++) x.set(0, p, 1);
        Checks.will(x, 0, "rest to 1;");
        Checks.will(x, 1, "rest to 2;");
        Checks.will(x, 2, "rest to 0;");
        x.days(1);
        int[] to = {0, 1, 2, NONE};
        t.due("lines", x.look(5), 4);
        for (int i = 0; i < 4; i++) t.due("line " + i, x.book(i, 2), to[i]);
        LetterHeirs y = Checks.founders(3);
        y.set(1, 0, 563);
        y.set(1, 2, 9999);
        int second = 1013904223 * 1664525 + 1013904223;
        t.due("0 lives by the first DRAW, 2 dies by the second", y.days(1), 1);
        t.due("two DRAWS", y.look(6), second);
        t.due("who LIVES", y.look(1), 3);
        t.due("the second below 9999", (second >>> 8) % 10000 < 9999, true);
    }

    private static void dayOrder() {
        t.says("LOANS whose last DAY is behind end. Then, by number, who LIVED ..");
        LetterHeirs x = Checks.founders(3);
        x.own(0, 0);
        x.lend(0, 1, 1, 0);
        x.days(1);
        x.set(0, 0, 2);
        Checks.law(x, "heir day-1 when age=2;");
        x.days(1);
        t.due("the LOAN ended", x.letter(0, 1), NONE);
        t.due("the heir by the new DAY", x.letter(0, 0), 1);
        t.due("on that DAY", x.book(1, 3), 2);
        LetterHeirs y = Checks.founders(3);
        y.own(0, 0);
        y.set(1, 0, 564);
        y.set(0, 1, 1);
        Checks.will(y, 0, "rest to 1;");
        Checks.will(y, 1, "rest to 2;");
        y.days(1);
        t.due("0 dies by a DRAW before 1 dies", y.book(1, 2), 1);
        t.due("then 1 leaves it", y.book(2, 2), 2);
    }

    private static void bookChanges() {
        t.says("THE BOOK: of each change of OWNER: LETTER, from (NONE), to (NONE), DAY");
        LetterHeirs x = Checks.founders(2);
        t.due("empty", x.look(5), 0);
        t.due("no line", x.book(0, 0), -2);
        x.own(3, NONE);
        t.due("from NONE to NONE is no change", x.look(5), 0);
        x.own(3, 0);
        x.own(3, 0);
        t.due("to the same one is no change", x.look(5), 1);
        x.days(2);
        x.own(3, 1);
        x.own(3, NONE);
        x.lend(3, 1, 1, 0);
        int[][] due = {{3, NONE, 0, 0, 0}, {3, 0, 1, 2, 0}, {3, 1, NONE, 2, 0}};
        for (int i = 0; i < 3; i++) {
            for (int what = 0; what < 5; what++) t.due("book(" + i + ", " + what + ")", x.book(i, what), due[i][what]);
        }
        t.due("lines", x.look(5), 3);
    }

    private static void bookHow() {
        t.says("how: 0 it was told, 1 a GIFT, 2 a DUEL, 3 a WILL, 4 THE LAW, or to nobody at a DEATH");
        LetterHeirs x = Checks.founders(5);
        x.own(0, 0);
        x.give(0, 1);
        x.set(2, 2, 99);
        x.state(5);
        t.due("the winner", x.duel(2, 1, 0), 2);
        Checks.will(x, 2, "rest to 3;");
        Checks.bury(x, 2);
        Checks.law(x, "heir 1 when skill=0;");
        Checks.bury(x, 3);
        x.set(2, 1, 1);
        x.set(2, 4, 1);
        Checks.bury(x, 0);
        int[] how = {0, 1, 2, 3, 4, 4};
        int[] to = {0, 1, 2, 3, 0, NONE};
        t.due("lines", x.look(5), 6);
        for (int i = 0; i < 6; i++) {
            t.due("how of line " + i, x.book(i, 4), how[i]);
            t.due("to of line " + i, x.book(i, 2), to[i]);
        }
    }

    private static void bookFull() {
        t.says("THE BOOK (200 lines; no more then)");
        LetterHeirs x = Checks.founders(2);
        for (int i = 0; i < 199; i++) x.own(i % 28, i / 28 % 2);
        t.due("one is left", x.look(5), 199);
        t.due("the 200th", x.own(27, 1), true);
        t.due("lines", x.look(5), 200);
        t.due("its LETTER", x.book(199, 0), 27);
        t.due("another change", x.give(0, 0), true);
        t.due("and another", x.own(1, NONE), true);
        t.due("lines", x.look(5), 200);
        t.due("the last line stays", x.book(199, 0), 27);
        t.due("no line 200", x.book(200, 0), -2);
        t.due("OWNER though", x.letter(0, 0), 0);
        t.due("nor TRACE", x.trace(27, 7), 199);
        t.due("changes of LETTER 1", x.letter(1, 4), 8);
    }

    private static void bookFullByDeath() {
        LetterHeirs x = Checks.founders(2);
        for (int i = 0; i < 198; i++) x.own(0, i % 2);
        for (int l = 1; l < 3; l++) x.own(l, 1);
        t.due("full", x.look(5), 200);
        LetterHeirs y = Checks.founders(2);
        for (int i = 0; i < 196; i++) y.own(0, i % 2);
        for (int l = 1; l < 3; l++) y.own(l, 1);
        Checks.will(y, 1, "rest to 0;");
        t.due("198", y.look(5), 198);
        Checks.bury(y, 1);
        t.due("the first two of three by a DEATH", y.look(5), 200);
        t.due("the first", y.book(198, 0), 0);
        t.due("the second", y.book(199, 0), 1);
        t.due("the third is left, too", y.letter(2, 0), 0);
        y.undo();
        t.due("undone", y.look(5), 198);
        t.due("undone, its line is none", y.book(198, 0), -2);
    }
}
