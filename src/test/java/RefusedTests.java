import java.util.function.Predicate;
import java.util.function.ToIntFunction;

/** What can't be answers as the document says and changes nothing; nor does a question. Each call on a clan of its own. */
public final class RefusedTests {
    private static final int NONE = LetterHeirs.NONE;
    private static final int NO_ANSWER = NONE - 1;
    private static final int[] WILD = {Integer.MIN_VALUE, Integer.MIN_VALUE + 1, -2, 28, 31, 32, 400, 1 << 28, Integer.MAX_VALUE - 1, Integer.MAX_VALUE};
    private static final Checks t = new Checks();
    private static final String CLAN = Dump.of(Dump.clan());
    private static final String UNDONE = undone(Dump.clan());

    public static void main(String[] args) {
        persons();
        sets();
        owns();
        tapes();
        fullTape();
        texts();
        weddings();
        partings();
        loans();
        gifts();
        duels();
        signings();
        days();
        lastDays();
        backs();
        twelve();
        questions();
        wildQuestions();
        t.close("RefusedTests");
    }

    /** What stands after all was undone that can be. */
    private static String undone(LetterHeirs x) {
        StringBuilder all = new StringBuilder();
        while (x.undo()) all.append("undo ").append(x.look(8)).append(' ');
        for (int what = 0; what < 11; what++) all.append(x.look(what)).append(' ');
        for (int p = 0; p < x.look(0); p++) all.append(x.of(p, 3)).append(' ').append(x.of(p, 6)).append(' ').append(x.of(p, 7)).append(' ');
        for (int l = 0; l < 4; l++) all.append(x.letter(l, 0)).append(' ').append(x.letter(l, 1)).append(' ');
        for (int d = 0; d < 2; d++) all.append(x.deed(d, 2)).append(' ');
        return all.toString();
    }

    private static void is(String call, ToIntFunction<LetterHeirs> asked, int due) {
        LetterHeirs x = Dump.clan();
        t.due(call, asked.applyAsInt(x), due);
        t.due("all behind " + call, Dump.of(x), CLAN);
        t.due("all that can be undone behind " + call, undone(x), UNDONE);
    }

    private static void not(String call, Predicate<LetterHeirs> asked) {
        is(call, x -> asked.test(x) ? 1 : 0, 0);
    }

    private static void persons() {
        t.says("NONE if one can't be (alike parents), or there are twelve");
        int[][] parents = {{0, 0}, {5, 5}, {-2, NONE}, {NONE, -2}, {7, NONE}, {NONE, 7}, {0, 7}, {7, 0}, {7, 7}, {12, 0},
            {Integer.MIN_VALUE, NONE}, {NONE, Integer.MAX_VALUE}};
        for (int[] p : parents) is("person(" + p[0] + ", " + p[1] + ", 0)", x -> x.person(p[0], p[1], 0), NONE);
        for (int coin : new int[] {-1, 100000, Integer.MIN_VALUE, Integer.MAX_VALUE}) {
            is("person(0, 1, " + coin + ")", x -> x.person(0, 1, coin), NONE);
        }
    }

    private static void sets() {
        t.says("true; false if one can't be, or another what");
        int[][] values = {{0, -2}, {0, 0}, {0, 1}, {0, 10000}, {1, -1}, {1, 10000}, {2, -1}, {2, 100}, {3, -1}, {3, 100000}, {4, -1}, {4, 4},
            {5, 0}, {-1, 0}, {6, 3}, {Integer.MIN_VALUE, 0}, {Integer.MAX_VALUE, 0}};
        for (int[] v : values) not("set(" + v[0] + ", 0, " + v[1] + ")", x -> x.set(v[0], 0, v[1]));
        for (int what = 0; what < 4; what++) {
            int which = what;
            for (int person : new int[] {-1, 5, 7, 12, Integer.MIN_VALUE, Integer.MAX_VALUE}) {
                not("set(" + what + ", " + person + ", 9)", x -> x.set(which, person, 9));
                not("set(" + what + ", " + person + ", -1)", x -> x.set(which, person, -1));
            }
        }
    }

    private static void owns() {
        t.says("A LETTER has an OWNER who LIVES (NONE: none), its LOAN ends: true; false if one can't be");
        for (int letter : new int[] {-1, 28, Integer.MIN_VALUE, Integer.MAX_VALUE}) {
            not("own(" + letter + ", 0)", x -> x.own(letter, 0));
            not("own(" + letter + ", NONE)", x -> x.own(letter, NONE));
        }
        for (int person : new int[] {-2, 5, 7, 12, Integer.MIN_VALUE, Integer.MAX_VALUE}) not("own(1, " + person + ")", x -> x.own(1, person));
    }

    private static void tapes() {
        t.says("The TAPE has its first n bytes alone: true; false, changing nothing, if it has not so many, or n is below 0");
        for (int n : new int[] {21, 400, -1, Integer.MIN_VALUE, Integer.MAX_VALUE}) {
            is("end(" + n + ")", x -> {
                x.feed(0x20202020, 0x20202020, 0x20202020, 0x20202020, 0x20202061);
                int refused = x.end(n) ? 1 : 0;
                t.due("the TAPE has twenty still", x.end(20), true);
                return refused;
            }, 0);
        }
        LetterHeirs x = new LetterHeirs();
        t.due("none of none", x.end(0), true);
        t.due("one of none", x.end(1), false);
        x.feed(0x61626364, 0x65666768, 0x696a6b6c, 0x6d6e6f70, 0x71727374);
        t.due("21 of 20", x.end(21), false);
        t.due("20 of 20", x.end(20), true);
        t.due("19 of 20", x.end(19), true);
        t.due("20 of 19", x.end(20), false);
        t.due("it is told", x.text(2, 0), 0);
        t.due("its first ones alone", x.deed(0, 1), 19);
        t.due("the last of them", x.at(0, 18), 18);
        x.feed(0x61616161, 0, 0, 0, 0);
        t.due("none of 20", x.end(0), true);
        t.due("twenty come behind none", x.feed(0x62202020, 0x20202020, 0x20202020, 0x20202020, 0x20202020), 20);
        x.text(2, 0);
        t.due("what was before is gone", x.deed(1, 0), 2);
    }

    private static void fullTape() {
        t.says("Twenty bytes come behind the TAPE, of each number the highest first: how many it has. NONE, and nothing comes, if there would be more than 400");
        LetterHeirs x = new LetterHeirs();
        int blanks = 0x20202020;
        for (int i = 1; i < 20; i++) t.due("feed", x.feed(blanks, blanks, blanks, blanks, blanks), 20 * i);
        t.due("the last twenty", x.feed(blanks, blanks, blanks, blanks, 0x20202061), 400);
        t.due("no more", x.feed(0x62626262, 0, 0, 0, 0), NONE);
        t.due("nothing came", x.text(2, 0), 0);
        t.due("its only sign", x.deed(0, 0), 1);
        for (int i = 1; i <= 20; i++) x.feed(blanks, blanks, blanks, blanks, blanks);
        t.due("cut by one", x.end(399), true);
        t.due("would be 419", x.feed(0, 0, 0, 0, 0), NONE);
        t.due("has 399 still", x.end(399), true);
        t.due("cut to 381", x.end(381), true);
        t.due("would be 401", x.feed(0, 0, 0, 0, 0), NONE);
        t.due("has not 382", x.end(382), false);
        t.due("cut to 380", x.end(380), true);
        t.due("400", x.feed(blanks, blanks, blanks, blanks, -1), 400);
        t.due("the bytes of -1 are no blanks", x.text(2, 0), NONE);
        t.due("the first of them", x.fault(1), 396);
        int[] bytes = {0x61626364, 0x65666768, 0x696a6b6c, 0x6d6e6f70, 0x71727374};
        x.feed(bytes[0], bytes[1], bytes[2], bytes[3], bytes[4]);
        x.text(2, 0);
        for (int i = 0; i < 20; i++) t.due("the highest first, " + i, x.at(1, i), i);
        x.feed(0x6120207f, 0x80ff0020, blanks, blanks, blanks);
        x.text(2, 0);
        t.due("byte 127", x.fault(1), 3);
        x.feed(0x61202020, 0x80ff0020, blanks, blanks, blanks);
        x.text(2, 0);
        t.due("byte 128", x.fault(1), 4);
    }

    private static void texts() {
        t.says("NONE: it can't be (no such one, does not LIVE, eight DEEDS; fault() tells 0), or a FAULT (the TAPE is empty by both, too; all else stays)");
        for (int which : new int[] {3, -1, Integer.MIN_VALUE, Integer.MAX_VALUE}) text(which, 0, "heir 1;", 0, NONE);
        for (int person : new int[] {-1, 5, 7, 12, Integer.MIN_VALUE, Integer.MAX_VALUE}) {
            text(1, person, "rest to 0;", 0, NONE);
            text(1, person, "?", 0, NONE);
        }
        text(0, 5, "heir 2;heir 3;?", 1, 14);
        text(0, 0, "heir 4 when kin=2; heir 5/0;", 2, 26);
        text(1, 0, "rest to 1;rest to 0;", 2, 18);
        text(1, 0, "leave \"ab\" to 1;rest to 2 if 3", 1, 30);
        text(1, 6, "leave \"\" to 1;", 2, 6);
        text(2, 0, "", 4, 0);
        text(2, 0, "ab?", 1, 2);
        text(2, 0, Checks.times("b", 41), 3, 40);
    }

    private static void text(int which, int person, String text, int fault, int place) {
        is("text(" + which + ", " + person + ") of '" + text + "'", x -> {
            Checks.tape(x, text);
            int answer = x.text(which, person);
            t.due("fault(0)", x.fault(0), fault);
            t.due("fault(1)", x.fault(1), place);
            t.due("the TAPE is empty", x.end(1), false);
            return answer;
        }, NONE);
    }

    private static void weddings() {
        t.says("A WEDDING: true; false if it can't be");
        int[][] pairs = {{0, 0}, {0, 1}, {0, 3}, {3, 0}, {3, 4}, {4, 3}, {2, 0}, {3, 5}, {5, 3}, {3, 7}, {7, 3}, {NONE, 3}, {3, NONE}, {6, 6},
            {Integer.MIN_VALUE, 3}, {3, Integer.MAX_VALUE}};
        for (int[] p : pairs) not("wed(" + p[0] + ", " + p[1] + ")", x -> x.wed(p[0], p[1]));
    }

    private static void partings() {
        t.says("A PARTING: true; false if it can't be");
        int[][] pairs = {{0, 0}, {0, 2}, {0, 3}, {3, 4}, {0, 5}, {5, 0}, {0, 7}, {7, 0}, {NONE, NONE}, {3, NONE}, {NONE, 3}, {6, 6},
            {Integer.MIN_VALUE, 0}, {0, Integer.MAX_VALUE}};
        for (int[] p : pairs) not("part(" + p[0] + ", " + p[1] + ")", x -> x.part(p[0], p[1]));
    }

    private static void loans() {
        t.says("A LOAN: true; false if it can't be (coins 0 .. COIN of who borrows; COIN would be above 99999)");
        int[][] loans = {{28, 1, 1, 0}, {-1, 1, 1, 0}, {20, 1, 1, 0}, {1, 2, 1, 0}, {1, 3, 1, 0}, {0, 0, 1, 0}, {0, 5, 1, 0}, {0, 7, 1, 0},
            {0, NONE, 1, 0}, {0, 1, 0, 0}, {0, 1, -1, 0}, {0, 1, 100, 0}, {0, 1, 1, -1}, {0, 1, 1, 101}, {0, 4, 1, 1}, {27, 1, 1, 11},
            {0, 1, Integer.MAX_VALUE, 0}, {0, 1, Integer.MIN_VALUE, 0}, {0, 1, 1, Integer.MAX_VALUE}, {0, 1, 1, Integer.MIN_VALUE},
            {Integer.MAX_VALUE, 1, 1, 0}, {0, Integer.MIN_VALUE, 1, 0}};
        for (int[] l : loans) not("lend(" + l[0] + ", " + l[1] + ", " + l[2] + ", " + l[3] + ")", x -> x.lend(l[0], l[1], l[2], l[3]));
        t.due("as many coins as there may be", Dump.clan().lend(27, 1, 1, 10), true);
    }

    private static void gifts() {
        t.says("A GIFT: true; false if it can't be");
        int[][] gifts = {{28, 1}, {-1, 1}, {20, 1}, {1, 2}, {1, 3}, {0, 0}, {0, 5}, {0, 7}, {0, NONE}, {Integer.MIN_VALUE, 1}, {0, Integer.MAX_VALUE}};
        for (int[] g : gifts) not("give(" + g[0] + ", " + g[1] + ")", x -> x.give(g[0], g[1]));
    }

    private static void duels() {
        t.says("A DUEL: who wins; NONE if it can't be");
        int[][] duels = {{0, 0, 0}, {1, 2, 0}, {0, 5, 0}, {5, 0, 0}, {0, 7, 0}, {7, 0, 0}, {NONE, 0, 0}, {0, NONE, 0}, {0, 1, 28}, {0, 1, -1},
            {0, 1, 20}, {3, 4, 1}, {Integer.MIN_VALUE, 0, 0}, {0, Integer.MAX_VALUE, 0}, {0, 1, Integer.MAX_VALUE}};
        for (int[] d : duels) is("duel(" + d[0] + ", " + d[1] + ", " + d[2] + ")", x -> x.duel(d[0], d[1], d[2]), NONE);
    }

    private static void signings() {
        t.says("A SIGNING: FORGED; NONE if it can't be (one of them does not LIVE)");
        int[][] signings = {{0, 0}, {0, 32}, {0, 33}, {0, 128}, {0, 129}, {0, 255}, {0, -1}, {3, 1}, {-1, 1}, {8, 1}, {0, Integer.MIN_VALUE},
            {0, Integer.MAX_VALUE}, {Integer.MIN_VALUE, 1}, {Integer.MAX_VALUE, 1}};
        for (int[] s : signings) is("sign(" + s[0] + ", " + s[1] + ")", x -> x.sign(s[0], s[1]), NONE);
    }

    private static void days() {
        t.says("DAYS end (1 .. 100): how many died. NONE, and nothing is done, if one can't be");
        for (int n : new int[] {0, -1, 101, Integer.MIN_VALUE, Integer.MAX_VALUE}) is("days(" + n + ")", x -> x.days(n), NONE);
        LetterHeirs x = new LetterHeirs();
        t.due("days(1), nobody there", x.days(1), 0);
        t.due("days(100)", x.days(100), 0);
        t.due("DAY", x.look(2), 101);
    }

    private static void lastDays() {
        t.says("NONE, and nothing is done, if .. DAY would be above 9999");
        LetterHeirs x = Checks.onLastDay(2);
        x.undo();
        x.own(0, 0);
        x.set(0, 0, 9999);
        x.set(1, 1, 9999);
        x.lend(0, 1, 1, 0);
        String before = Dump.of(x);
        for (int n : new int[] {2, 3, 100}) t.due("days(" + n + ") on DAY 9998", x.days(n), NONE);
        t.due("all as it was", Dump.of(x), before);
        t.due("days(1)", x.days(1) >= 1, true);
        t.due("DAY", x.look(2), 9999);
        int state = x.look(6);
        for (int n : new int[] {1, 2, 100}) t.due("days(" + n + ") on DAY 9999", x.days(n), NONE);
        t.due("STATE stays", x.look(6), state);
        t.due("DAY stays", x.look(2), 9999);
    }

    private static void backs() {
        t.says("false if there is nothing; false if there is none");
        not("image(false)", x -> x.image(false));
        LetterHeirs x = Checks.founders(2);
        x.own(0, 0);
        String before = Dump.of(x);
        t.due("undo()", x.undo(), false);
        t.due("image(false)", x.image(false), false);
        t.due("all as it was", Dump.of(x), before);
    }

    private static void twelve() {
        t.says("NONE if one can't be (alike parents), or there are twelve");
        LetterHeirs x = Checks.founders(12);
        x.days(2);
        t.due("a thirteenth", x.person(NONE, NONE, 0), NONE);
        t.due("a thirteenth with parents", x.person(0, 1, 0), NONE);
        t.due("PEOPLE", x.look(0), 12);
        t.due("who LIVES", x.look(1), 4095);
        t.due("what can be undone", x.look(8), 2);
    }

    private static void questions() {
        t.says("IN THOUGHT (nothing of it stays, no DRAWS)");
        is("kin", x -> x.kin(0, 4), 99);
        is("weddings, no way", x -> x.weddings(6, 1, 0), NONE);
        is("weddings, one", x -> x.weddings(6, 2, 0), 1);
        is("whenCan", x -> x.whenCan(2, 0), 10);
        is("whenCan by deaths", x -> x.whenCan(4, 1), NONE);
        is("hand", x -> x.hand(1), 7);
        is("inherit", x -> x.inherit(0, 0, 0), 2);
        is("inherit by THE WILL", x -> x.inherit(0, 1, 1), 1);
        is("worth", x -> x.worth(0, 2, 0), 5);
        is("silent", x -> x.silent(0), 0);
        is("silent, of who has it", x -> x.silent(3), 0);
        is("best", x -> x.best(0, 0), 3);
        is("best, how many", x -> x.best(0, 1), 2);
        is("dumb", LetterHeirs::dumb, 64);
        is("VALUE", x -> x.letter(1, 5), 3);
        is("SIGNERS", x -> x.deed(0, 5), 9);
        is("ALONE", x -> x.deed(0, 6), 0);
        is("NEEDED", x -> x.deed(0, 7), 8);
        is("TRACE", x -> x.trace(3, 1), 5);
    }

    private static void wildQuestions() {
        t.says("NONE - 1 if there is none such, or another what");
        for (int wild : WILD) {
            is("of(" + wild + ", 0)", x -> x.of(wild, 0), NO_ANSWER);
            is("of(0, " + wild + ")", x -> x.of(0, wild), NO_ANSWER);
            is("letter(" + wild + ", 0)", x -> x.letter(wild, 0), NO_ANSWER);
            is("letter(0, " + wild + ")", x -> x.letter(0, wild), NO_ANSWER);
            is("deed(" + wild + ", 0)", x -> x.deed(wild, 0), NO_ANSWER);
            is("deed(0, " + wild + ")", x -> x.deed(0, wild), NO_ANSWER);
            is("book(" + wild + ", 0)", x -> x.book(wild, 0), NO_ANSWER);
            is("book(0, " + wild + ")", x -> x.book(0, wild), NO_ANSWER);
            is("inherit(" + wild + ", 0, 0)", x -> x.inherit(wild, 0, 0), NO_ANSWER);
            is("inherit(0, " + wild + ", 0)", x -> x.inherit(0, wild, 0), NO_ANSWER);
            is("inherit(0, 0, " + wild + ")", x -> x.inherit(0, 0, wild), NO_ANSWER);
            is("look(" + wild + ")", x -> x.look(wild), NO_ANSWER);
            is("at(" + wild + ", 0)", x -> x.at(wild, 0), NONE);
            is("at(0, " + wild + ")", x -> x.at(0, wild), NONE);
            is("kin(" + wild + ", 0)", x -> x.kin(wild, 0), NONE);
            is("kin(0, " + wild + ")", x -> x.kin(0, wild), NONE);
            is("weddings(" + wild + ", 0, 0)", x -> x.weddings(wild, 0, 0), NONE);
            is("weddings(0, " + wild + ", 0)", x -> x.weddings(0, wild, 0), NONE);
            is("weddings(0, 0, " + wild + ")", x -> x.weddings(0, 0, wild), NONE);
            is("whenCan(" + wild + ", 0)", x -> x.whenCan(wild, 0), NONE);
            is("whenCan(0, " + wild + ")", x -> x.whenCan(0, wild), NONE);
            is("worth(" + wild + ", 0, 0)", x -> x.worth(wild, 0, 0), 0);
            is("worth(0, " + wild + ", 0)", x -> x.worth(0, wild, 0), 0);
            is("worth(0, 2, " + wild + ")", x -> x.worth(0, 2, wild), 0);
            is("silent(" + wild + ")", x -> x.silent(wild), NONE);
            is("trace(" + wild + ", 0)", x -> x.trace(wild, 0), NONE);
            is("trace(0, " + wild + ")", x -> x.trace(0, wild), NONE);
            is("best(" + wild + ", 0)", x -> x.best(wild, 0), NONE);
            is("best(0, " + wild + ")", x -> x.best(0, wild), NONE);
            is("fault(" + wild + ")", x -> x.fault(wild), NONE);
        }
    }
}
