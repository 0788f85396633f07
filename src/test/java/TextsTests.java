/** 'Terms', 2. TEXTS: each sentence that names a boundary case, told with its own words. */
public final class TextsTests {
    private static final int NONE = LetterHeirs.NONE;
    private static final int LAW = 0;
    private static final int WILL = 1;
    private static final int DEED = 2;
    private static final String ROW = "abcdefghijklmnopqrstuvwxyz.,";
    private static final Checks t = new Checks();

    public static void main(String[] args) {
        lawAtFirst();
        lawLines();
        conditions();
        claims();
        values();
        lawAnew();
        willAtFirst();
        rows();
        names();
        deedSigns();
        deedBlanks();
        deedNumbers();
        words();
        numbers();
        signs();
        blanks();
        wrap();
        quotients();
        theFirst();
        theLeast();
        cannotStand();
        theEnd();
        theEndOfTheTape();
        bytesInside();
        rowsWithoutEnd();
        partByNone();
        nobodyOfThatNumber();
        rowsOfNoSign();
        seventeenthLine();
        thirteenthLine();
        ninthOpen();
        fortyFirstSign();
        withoutASign();
        worthOfLines();
        worthOfFacts();
        worthOfKin();
        heirByWill();
        heirByLaw();
        t.close("TextsTests");
    }

    /** The text is told of person 1 of three; where it can't be, all else stays. */
    private static void fault(int which, String text, int fault, int place) {
        LetterHeirs x = Checks.founders(3);
        Checks.law(x, "heir 7;");
        Checks.will(x, 1, "rest to 2;");
        x.own(0, 1);
        Checks.tape(x, text);
        t.due("text of '" + text + "'", x.text(which, 1), NONE);
        t.due("FAULT in '" + text + "'", x.fault(0), fault);
        t.due("its place in '" + text + "'", x.fault(1), place);
        t.due("the TAPE behind '" + text + "'", x.end(1), false);
        t.due("THE LAW behind '" + text + "'", x.worth(0, 1, 0) * 10 + x.look(7), 71);
        t.due("THE WILL behind '" + text + "'", x.inherit(1, 0, 0) * 10 + x.of(1, 11), 21);
        t.due("DEEDS behind '" + text + "'", x.look(4), 0);
    }

    /** The text can be: so many lines (A DEED: number 0). */
    private static void can(int which, String text, int answer) {
        LetterHeirs x = Checks.founders(3);
        Checks.tape(x, text);
        t.due("text of '" + text + "'", x.text(which, 1), answer);
        t.due("FAULT in '" + text + "'", x.fault(0), 0);
        t.due("its place in '" + text + "'", x.fault(1), NONE);
        t.due("the TAPE behind '" + text + "'", x.end(1), false);
    }

    /** WORTH of 1 as an heir of 0 for the letter d, by this E. */
    private static void value(String value, int due) {
        LetterHeirs x = Checks.founders(2);
        t.due("THE LAW 'heir " + value + ";'", Checks.law(x, "heir " + value + ";"), 1);
        t.due("WORTH by '" + value + "'", x.worth(0, 1, 3), due);
    }

    private static void condition(String condition, boolean due) {
        LetterHeirs x = Checks.founders(2);
        t.due("THE LAW with '" + condition + "'", Checks.law(x, "heir 1 when " + condition + ";"), 1);
        t.due("is it so: '" + condition + "'", x.worth(0, 1, 3), due ? 1 : 0);
    }

    private static void lawAtFirst() {
        t.says("THE LAW OF HEIRS (empty at first)");
        LetterHeirs x = Checks.founders(2);
        x.own(0, 0);
        t.due("lines", x.look(7), 0);
        t.due("WORTH", x.worth(0, 1, 0), 0);
        t.due("nobody inherits", x.inherit(0, 0, 0), NONE);
    }

    private static void lawLines() {
        t.says("{heir E [when B] ;}");
        can(LAW, "", 0);
        can(LAW, " ", 0);
        can(LAW, "heir 0;", 1);
        can(LAW, "heir 0 when 0=0;", 1);
        can(LAW, Checks.times("heir 0;", 16), 16);
        fault(LAW, "heir 0 when 0=0", 1, 15);
        fault(LAW, "heir when 0=0;", 1, 5);
        fault(LAW, "heir 0 when;", 1, 11);
        fault(LAW, "heir 0 0=0;", 1, 7);
        fault(LAW, "heir 0 when 0=0 when 0=0;", 1, 16);
        fault(LAW, ";", 1, 0);
        fault(LAW, "0;", 1, 0);
    }

    private static void conditions() {
        t.says("B = A {or A}.  A = C {and C}");
        condition("1=1", true);
        condition("1=2", false);
        condition("1=2 or 1=1", true);
        condition("1=2 or 1=2 or 1=1", true);
        condition("1=2 or 1=1 or 1=2", true);
        condition("1=1 or 1=2 or 1=2", true);
        condition("1=1 or 1=2 or 1=2 and 1=2 or 1=2", true);
        condition("1=2 or 1=2 or 1=2", false);
        condition("1=1 and 1=2", false);
        condition("1=1 and 1=1 and 1=1", true);
        condition("1=1 or 1=1 and 1=2", true);
        condition("1=2 and 1=1 or 1=1", true);
        condition("1=2 or 1=1 and 1=2 or 1=2", false);
        condition("1=1 and 1=2 or 1=2 and 1=1", false);
        fault(LAW, "heir 1 when 1=1 or", 1, 18);
        fault(LAW, "heir 1 when 1=1 or or 1=1;", 1, 19);
        fault(LAW, "heir 1 when 1=1 and or 1=1;", 1, 20);
        fault(LAW, "heir 1 when and 1=1;", 1, 12);
        fault(LAW, "heir 1 when 1=1 1=1;", 1, 16);
    }

    private static void claims() {
        t.says("C = E (< | = | >) E | not C | ( B )");
        condition("1<2", true);
        condition("2<2", false);
        condition("3<2", false);
        condition("2=2", true);
        condition("2=3", false);
        condition("2>1", true);
        condition("2>2", false);
        condition("1>2", false);
        condition("0-1<0", true);
        condition("not 1=1", false);
        condition("not not 1=1", true);
        condition("not 1=2 and 1=2", false);
        condition("not (1=2 and 1=2)", true);
        condition("(1=2)", false);
        condition("((1=1))", true);
        condition("(1=1 or 1=1) and 1=2", false);
        condition("not 1=1 or 1=1", true);
        condition("1=2 or not 1=2", true);
        condition("1=1 and not 1=1", false);
        fault(LAW, "heir 1 when 1;", 1, 13);
        fault(LAW, "heir 1 when 1<;", 1, 14);
        fault(LAW, "heir 1 when 1<=2;", 1, 14);
        fault(LAW, "heir 1 when 1=2=3;", 1, 15);
        fault(LAW, "heir 1 when ();", 1, 13);
        fault(LAW, "heir 1 when (1)=1;", 1, 14);
        fault(LAW, "heir 1 when 1=(1);", 1, 14);
        fault(LAW, "heir 1 when (1=1;", 1, 16);
        fault(LAW, "heir 1 when 1=1);", 1, 15);
        fault(LAW, "heir not 1;", 1, 5);
    }

    private static void values() {
        t.says("E = T {(+ | -) T}.  T = U {* U | / NUMBER}");
        value("7", 7);
        value("1+2+3", 6);
        value("9-2-3", 4);
        value("9-2+3", 10);
        value("2+3*4", 14);
        value("2*3+4", 10);
        value("20-2*3-4", 10);
        value("2*3*4", 24);
        value("24/2/3", 4);
        value("7/2*2", 6);
        value("2*7/2", 7);
        value("letter*letter-letter/2", 8);
        fault(LAW, "heir -1;", 1, 5);
        fault(LAW, "heir +1;", 1, 5);
        fault(LAW, "heir 1+-1;", 1, 7);
        fault(LAW, "heir 1+;", 1, 7);
        fault(LAW, "heir 1-;", 1, 7);
        fault(LAW, "heir 1*;", 1, 7);
        fault(LAW, "heir 1*(2);", 1, 7);
        fault(LAW, "heir (1);", 1, 5);
        fault(LAW, "heir 8/day;", 1, 7);
        fault(LAW, "heir 8/-1;", 1, 7);
        fault(LAW, "heir 8/;", 1, 7);
        fault(LAW, "heir 1 2;", 1, 7);
    }

    private static void lawAnew() {
        t.says("The TAPE, empty then, is TEXT which");
        LetterHeirs x = Checks.founders(2);
        for (int i = 0; i < 9; i++) {
            t.due("a long law anew", Checks.law(x, "heir 1" + Checks.times("+1*2", 80) + "+" + i + " when day<1;"), 1);
            t.due("its WORTH", x.worth(0, 1, 0), 161 + i);
        }
        t.due("two lines", Checks.law(x, "heir 1 when 1=2;heir 2;"), 2);
        t.due("its WORTH", x.worth(0, 1, 0), 2);
        t.due("one line", Checks.law(x, "heir 1 when 1=2;"), 1);
        t.due("nothing of the longer one stays", x.worth(0, 1, 0), 0);
        t.due("no line", Checks.law(x, ""), 0);
        t.due("lines", x.look(7), 0);
        Checks.will(x, 0, "rest to 1 if 1;rest to 1;");
        x.own(0, 0);
        t.due("THE WILL of two lines", x.inherit(0, 0, 1), 1);
        Checks.will(x, 0, "leave \"b\" to 1;");
        t.due("nothing of the longer one stays", x.inherit(0, 0, 1), 0);
        t.due("lines", x.of(0, 11), 1);
    }

    private static void willAtFirst() {
        t.says("THE WILL of a PERSON (empty at first) = {leave ROW to N [if N] ; | rest to N [if N] ;}");
        LetterHeirs x = Checks.founders(2);
        x.own(0, 0);
        t.due("lines", x.of(0, 11), 0);
        t.due("no HEIR", x.inherit(0, 0, 0), NONE);
        can(WILL, "", 0);
        can(WILL, " \n", 0);
        can(WILL, "rest to 0;", 1);
        can(WILL, "rest to 0 if 2;", 1);
        can(WILL, "leave \"a\" to 0;", 1);
        can(WILL, "leave \"a\" to 0 if 2;", 1);
        can(WILL, "rest to 0;leave \"a\" to 0;rest to 0;", 3);
        can(WILL, Checks.times("rest to 0;", 12), 12);
        fault(WILL, "rest to 0", 1, 9);
        fault(WILL, "rest 0;", 1, 5);
        fault(WILL, "rest to;", 1, 7);
        fault(WILL, "rest to 0 if;", 1, 12);
        fault(WILL, "rest to 0 2;", 1, 10);
        fault(WILL, "rest to 0 if 2 if 2;", 1, 15);
        fault(WILL, "rest \"a\" to 0;", 1, 5);
        fault(WILL, "leave to 0;", 1, 6);
        fault(WILL, "leave \"a\" \"b\" to 0;", 1, 10);
        fault(WILL, "leave \"a\" to \"b\";", 1, 13);
        fault(WILL, "\"a\" to 0;", 1, 0);
        fault(WILL, ";", 1, 0);
    }

    private static void rows() {
        t.says("ROW = \" {a .. z | . | ,} \" (1 to 28 signs)");
        can(WILL, "leave \"z\" to 0;", 1);
        can(WILL, "leave \".\" to 0;", 1);
        can(WILL, "leave \",\" to 0;", 1);
        can(WILL, "leave \"" + ROW + "\" to 0;", 1);
        can(WILL, "leave \"" + Checks.times("q", 28) + "\" to 0;", 1);
        fault(WILL, "leave \"\" to 0;", 2, 6);
        fault(WILL, "leave \"" + Checks.times("q", 29) + "\" to 0;", 2, 6);
        for (int l = 0; l < 28; l++) {
            LetterHeirs x = Checks.founders(3);
            Checks.will(x, 1, "leave \"" + ROW.charAt(l) + "\" to 0;");
            for (int k = 0; k < 28; k++) x.own(k, 1);
            for (int k = 0; k < 28; k++) t.due("row '" + ROW.charAt(l) + "', LETTER " + k, x.inherit(1, k, 0), k == l ? 0 : NONE);
        }
    }

    private static void names() {
        t.says("N: a PERSON that there is, not he whose it is");
        can(WILL, "rest to 0;", 1);
        can(WILL, "rest to 2 if 0;", 1);
        can(WILL, "rest to 2 if 2;", 1);
        fault(WILL, "rest to 1;", 2, 8);
        fault(WILL, "rest to 3;", 2, 8);
        fault(WILL, "rest to 0 if 1;", 2, 13);
        fault(WILL, "rest to 0 if 3;", 2, 13);
        LetterHeirs x = Checks.founders(12);
        t.due("the twelfth", Checks.will(x, 0, "rest to 11 if 0011;"), 1);
        t.due("a thirteenth", Checks.will(x, 0, "rest to 12;"), NONE);
        t.due("of the twelfth", Checks.will(x, 11, "rest to 0;"), 1);
        t.due("of the twelfth to himself", Checks.will(x, 11, "rest to 11;"), NONE);
        LetterHeirs y = Checks.founders(2);
        t.due("not yet there", Checks.will(y, 1, "rest to 2;"), NONE);
        y.person(NONE, NONE, 0);
        t.due("there now", Checks.will(y, 1, "rest to 2;"), 1);
        Checks.bury(y, 2);
        t.due("one who does not LIVE is there", Checks.will(y, 1, "rest to 0 if 2;"), 1);
    }

    private static void deedSigns() {
        t.says("A DEED: a row of 1 to 40 signs, each a LETTER (a .. z . ,)");
        can(DEED, "a", 0);
        can(DEED, Checks.times(",", 40), 0);
        fault(DEED, "", 4, 0);
        fault(DEED, Checks.times(",", 41), 3, 40);
        LetterHeirs x = new LetterHeirs();
        Checks.deed(x, Checks.times("ab", 19) + ".,");
        t.due("signs", x.deed(0, 1), 40);
        t.due("its LETTERS", x.deed(0, 0), Checks.letters("ab.,"));
        t.due("the last", x.at(0, 39), 27);
        t.due("behind it", x.at(0, 40), NONE);
        t.due("before the first", x.at(0, -1), NONE);
    }

    private static void deedBlanks() {
        t.says("or blanks (32, 10) between, which count as nothing and belong to no LETTER");
        LetterHeirs x = new LetterHeirs();
        t.due("a DEED", Checks.deed(x, " \na  \n\nb " + Checks.times(" ", 300) + "\n"), 0);
        t.due("signs", x.deed(0, 1), 2);
        t.due("its LETTERS", x.deed(0, 0), 3);
        t.due("the first", x.at(0, 0), 0);
        t.due("the second", x.at(0, 1), 1);
        t.due("no third", x.at(0, 2), NONE);
        t.due("forty signs and blanks", Checks.deed(x, Checks.times("a ", 40)), 1);
        t.due("forty", x.deed(1, 1), 40);
    }

    private static void deedNumbers() {
        t.says("DEEDS 0 .. 7 as they come");
        LetterHeirs x = new LetterHeirs();
        t.due("none", x.deed(0, 1), -2);
        for (int d = 0; d < 8; d++) {
            t.due("the next one", Checks.deed(x, Checks.times("a", d + 1)), d);
            t.due("DEEDS", x.look(4), d + 1);
            t.due("its signs", x.deed(d, 1), d + 1);
            t.due("not yet there", x.deed(d + 1, 1), -2);
        }
        t.due("a ninth", Checks.deed(x, "a"), NONE);
        t.due("FAULT", x.fault(0), 0);
        t.due("its place", x.fault(1), NONE);
        t.due("a ninth that could not be", Checks.deed(x, "?"), NONE);
        t.due("FAULT", x.fault(0), 0);
        t.due("the TAPE", x.end(1), false);
        t.due("DEEDS", x.look(4), 8);
    }

    private static void words() {
        t.says("letters as many as stand together are KEYWORDS (those told here for that text) or none");
        for (String word : new String[] {"letter", "vowel", "age", "kin", "child", "spouse", "owns", "skill", "coin", "day"}) {
            can(LAW, "heir " + word + ";", 1);
            fault(LAW, "heir " + word + "s;", 1, 5);
            fault(LAW, "heir " + word.substring(1) + ";", 1, 5);
            fault(LAW, "heir " + word.substring(0, word.length() - 1) + ";", 1, 5);
            fault(LAW, "heir 1 " + word + ";", 1, 7);
        }
        fault(LAW, "heirheir 1;", 1, 0);
        for (char beside : "azAZ".toCharArray()) {
            fault(LAW, "heir" + beside + " 1;", 1, 0);
            fault(LAW, beside + "heir 1;", 1, 0);
            fault(WILL, "rest" + beside + " to 0;", 1, 0);
        }
        for (char beside : "@[`{".toCharArray()) {
            fault(LAW, "heir" + beside + " 1;", 1, 4);
            fault(WILL, "rest" + beside + " to 0;", 1, 4);
        }
        fault(LAW, "heir ageage;", 1, 5);
        fault(LAW, "heir AGE;", 1, 5);
        fault(LAW, "heir agE;", 1, 5);
        fault(LAW, "heir 1 when not1=1 and notkin=1;", 1, 23);
        fault(LAW, "rest to 2;", 1, 0);
        fault(LAW, "heir rest;", 1, 5);
        fault(LAW, "heir 1 if 1=1;", 1, 7);
        fault(WILL, "heir 1;", 1, 0);
        fault(WILL, "rest to age;", 1, 8);
        fault(WILL, "rest to 2 when 0;", 1, 10);
        fault(WILL, "restto 2;", 1, 0);
        fault(WILL, "rest to 2 iff 0;", 1, 10);
        fault(WILL, "lea ve \"a\" to 2;", 1, 0);
        can(LAW, "heir1when not1=1and 2<3or 4>5;", 1);
        can(WILL, "rest to2if0;leave\"a\"to2;", 2);
    }

    private static void numbers() {
        t.says("digits as many as stand together NUMBERS of 1 to 4 digits or none");
        value("0", 0);
        value("9", 9);
        value("0000", 0);
        value("0010", 10);
        value("9999", 9999);
        fault(LAW, "heir 10000;", 1, 5);
        fault(LAW, "heir 00001;", 1, 5);
        fault(LAW, "heir 99999999999999999999;", 1, 5);
        fault(LAW, "heir 1 2;", 1, 7);
        fault(LAW, "heir 1/00001;", 1, 7);
        can(WILL, "rest to 0002;", 1);
        fault(WILL, "rest to 00002;", 1, 8);
        fault(WILL, "rest to 0 if 00002;", 1, 13);
        fault(WILL, "rest to 9999;", 2, 8);
        fault(WILL, "rest to 10000;", 1, 8);
    }

    private static void signs() {
        t.says("; + - * / ( ) < = > ; in THE WILL a ROW from \" to the next \"");
        condition("(1+2-3*4/5<6)and(1=1)and(2>1)", true);
        fault(LAW, "heir \"a\";", 1, 5);
        fault(LAW, "heir 1\";", 1, 6);
        fault(LAW, "\"a\"", 1, 0);
        fault(WILL, "rest to 0 \"a\";", 1, 10);
        fault(WILL, "leave \"a\"\" to 0;", 1, 9);
        fault(WILL, "rest to 0 + 0;", 1, 10);
        fault(WILL, "rest (to) 0;", 1, 5);
        for (char sign : "!#$%&',.:?@[\\]^_`{|}~\t\r".toCharArray()) {
            fault(LAW, "heir 1 " + sign + ";", 1, 7);
            fault(WILL, "rest " + sign + " to 0;", 1, 5);
        }
    }

    private static void blanks() {
        t.says("Blanks (32, 10) between");
        can(LAW, "\n heir\n\n1 when  not\n1\n=\n1 ;\n", 1);
        can(WILL, "\n leave\n\"a\"\nto\n2\nif\n0\n;\n", 1);
        for (int sign : new int[] {0, 9, 11, 13, 31, 127, 128, 160, 223, 233, 255}) {
            fault(LAW, "heir" + (char) sign + "1;", 1, 4);
            fault(WILL, "rest" + (char) sign + "to 0;", 1, 4);
            fault(DEED, "a" + (char) sign + "b", 1, 1);
        }
        fault(LAW, "he ir 1;", 1, 0);
        fault(LAW, "heir 1 when 1 0=10;", 1, 14);
    }

    private static void wrap() {
        t.says("Ints, which wrap");
        value("9999*9999*9999", 9999 * 9999 * 9999);
        value("9999*9999*9999", -1027349969);
        value("2147*1000*1000+483*1000+647", Integer.MAX_VALUE);
        value("2147*1000*1000+483*1000+648", Integer.MIN_VALUE);
        value("0-2147*1000*1000-483*1000-648", Integer.MIN_VALUE);
        value("0-2147*1000*1000-483*1000-649", Integer.MAX_VALUE);
        value("4096*4096*256", 0);
        value("4096*4096*128/2", -1073741824);
        condition("9999*9999*9999<0", true);
        condition("2147*1000*1000+483*1000+648<0", true);
        LetterHeirs x = Checks.founders(2);
        x.own(0, 0);
        Checks.law(x, "heir 2147*1000*1000+483*1000+647;");
        t.due("the greatest is above 0", x.inherit(0, 0, 0), 1);
        Checks.law(x, "heir 2147*1000*1000+483*1000+648;");
        t.due("the least is not", x.inherit(0, 0, 0), NONE);
    }

    private static void quotients() {
        t.says("/ goes towards 0");
        value("7/2", 3);
        value("0/2", 0);
        value("1/2", 0);
        value("1/9999", 0);
        value("9999/1", 9999);
        value("0-7/2", -3);
        value("letter-letter*2/4", 2);
        // what is parted can be below 0 by a wrap alone: here it is -1027349969
        value("9999*9999*9999/2", -513674984);
        value("9999*9999*9999/9999", -102745);
        value("9999*9999*9999/9999*9999+1027*1000*1000+349*1000+969", 2714);
    }

    private static void theFirst() {
        t.says("FAULTS, the first by its place");
        fault(LAW, "heir ? heir 1/0;", 1, 5);
        fault(LAW, "heir 1/0; heir ?", 2, 7);
        fault(LAW, Checks.times("heir 1;", 16) + "heir ?", 3, 112);
        fault(LAW, Checks.times("heir 1;", 15) + "heir ?; heir 1;", 1, 110);
        fault(WILL, "rest to 9 ?", 2, 8);
        fault(WILL, "rest ? to 9", 1, 5);
        fault(WILL, "leave \"\" to 9;", 2, 6);
        fault(WILL, "leave \"a!\" to 9;", 1, 8);
        fault(WILL, "rest to 9 if 1;", 2, 8);
        fault(WILL, Checks.times("rest to 2;", 12) + "rest to 9;", 3, 120);
        fault(WILL, Checks.times("rest to 2;", 11) + "rest to 9;rest to 2;", 2, 118);
        fault(DEED, "?" + Checks.times("a", 41), 1, 0);
        fault(DEED, Checks.times("a", 41) + "?", 3, 40);
        fault(DEED, "a!?", 1, 1);
    }

    private static void theLeast() {
        t.says("at one place the least");
        fault(DEED, Checks.times("a", 40) + "!", 1, 40);
        fault(LAW, Checks.times("heir 1;", 16) + "when", 1, 112);
        fault(LAW, Checks.times("heir 1;", 16) + ";", 1, 112);
        fault(WILL, Checks.times("rest to 2;", 12) + "to", 1, 120);
        fault(LAW, "heir 1/00000;", 1, 7);
        fault(WILL, "rest to 00009;", 1, 8);
        fault(LAW, "heir 1 when " + Checks.times("(", 8) + "1=(", 1, 22);
        fault(LAW, "heir 1 when " + Checks.times("(", 8) + "1 not", 1, 22);
    }

    private static void cannotStand() {
        t.says("1 what can't stand there");
        fault(LAW, "heir", 1, 4);
        fault(LAW, "when 1=1;", 1, 0);
        fault(LAW, "heir 1) ;", 1, 6);
        fault(LAW, "heir 1=1;", 1, 6);
        fault(LAW, "heir 1 or 1=1;", 1, 7);
        fault(LAW, "heir 1;;", 1, 7);
        fault(WILL, "to 2;", 1, 0);
        fault(WILL, "rest to 2;;", 1, 10);
        fault(WILL, "rest to to 2;", 1, 8);
        fault(DEED, "A", 1, 0);
        fault(DEED, "1", 1, 0);
    }

    private static void theEnd() {
        t.says("the end: the text's length");
        fault(LAW, "heir ", 1, 5);
        fault(LAW, "heir 1", 1, 6);
        fault(LAW, "heir 1 \n ", 1, 9);
        fault(LAW, "heir 1+", 1, 7);
        fault(LAW, "heir 1/", 1, 7);
        fault(LAW, "heir 1 when", 1, 11);
        fault(LAW, "heir 1 when (", 1, 13);
        fault(LAW, "heir 1 when not ", 1, 16);
        fault(LAW, "heir 1 when 1=1", 1, 15);
        fault(LAW, "heir 1 when " + Checks.times(" ", 388), 1, 400);
        fault(LAW, Checks.times("heir 1;", 16) + "heir", 3, 112);
        fault(WILL, "leave", 1, 5);
        fault(WILL, "leave \"a\"", 1, 9);
        fault(WILL, "leave \"a\" to", 1, 12);
        fault(WILL, "rest to 2", 1, 9);
        fault(WILL, "rest to 2 if", 1, 12);
        fault(WILL, "rest to 2 if 0 ", 1, 15);
    }

    /** What the TAPE had behind its end is no part of the text. */
    private static void theEndOfTheTape() {
        LetterHeirs x = Checks.founders(2);
        String[] texts = {"heirs", "heir 1when", "heir 12345", "heir 1;heir 1", "heir 1/10"};
        int[] ends = {4, 7, 9, 12, 7};
        for (int i = 0; i < texts.length; i++) {
            Checks.tape(x, texts[i]);
            x.end(ends[i]);
            t.due("text of the first " + ends[i] + " of '" + texts[i] + "'", x.text(LAW, 0), NONE);
            t.due("FAULT", x.fault(0), 1);
            t.due("its place", x.fault(1), i == 1 ? 6 : ends[i]);
        }
        Checks.tape(x, "leave \"ab\" to 0;");
        x.end(8);
        t.due("a ROW that does not end any more", x.text(WILL, 1), NONE);
        t.due("its place", x.fault(1), 8);
        Checks.tape(x, "abcdef");
        x.end(3);
        x.text(DEED, 0);
        t.due("its first three alone", x.deed(0, 1), 3);
    }

    private static void bytesInside() {
        t.says("in a ROW, A DEED a byte that is no such sign");
        for (int sign : new int[] {0, 10, 32, '!', '+', '-', '/', '0', '@', 'A', 'Z', '[', '`', '{', 127, 128, 225, 255}) {
            fault(WILL, "leave \"a" + (char) sign + "b\" to 2;", 1, 8);
            fault(WILL, "leave \"" + (char) sign + "\" to 2;", 1, 7);
            if (sign != 10 && sign != 32) fault(DEED, "a " + (char) sign, 1, 2);
        }
        fault(WILL, "leave \"" + Checks.times("a", 28) + "!\" to 2;", 1, 35);
        fault(WILL, "leave \"" + Checks.times("a", 29) + "!\" to 2;", 1, 36);
        fault(DEED, "\"a\"", 1, 0);
    }

    private static void rowsWithoutEnd() {
        t.says("a ROW that does not end: the text's length");
        fault(WILL, "leave \"", 1, 7);
        fault(WILL, "leave \"a", 1, 8);
        fault(WILL, "leave \"" + ROW + "a", 1, 36);
        fault(WILL, "leave \"" + Checks.times("a", 393), 1, 400);
        fault(WILL, "leave \"a to 2;", 1, 8);
        fault(WILL, "leave \"abc!", 1, 10);
    }

    private static void partByNone() {
        t.says("2 (at the NUMBER) a part by 0");
        fault(LAW, "heir 1/0;", 2, 7);
        fault(LAW, "heir 1/  0000;", 2, 9);
        fault(LAW, "heir 0*3/0;", 2, 9);
        fault(LAW, "heir 1 when 1/0=1;", 2, 14);
        fault(LAW, "heir 1 when 1=1/2/0;", 2, 18);
        can(LAW, "heir 0/1;", 1);
        can(LAW, "heir 1/0001*0-0+0;", 1);
    }

    private static void nobodyOfThatNumber() {
        t.says("2 (at the NUMBER) N that can't be");
        fault(WILL, "rest to  3 ;", 2, 9);
        fault(WILL, "rest to 0001;", 2, 8);
        fault(WILL, "leave \"a\" to 12;", 2, 13);
        fault(WILL, "leave \"a\" to 0 if  1;", 2, 19);
        fault(WILL, "rest to 3", 2, 8);
        fault(WILL, "rest to 0 if 3", 2, 13);
        fault(WILL, "rest to 9999 9", 2, 8);
    }

    private static void rowsOfNoSign() {
        t.says("2 (at its first \") a ROW that ends, all of whose bytes are such signs, of no sign, or of more than 28");
        fault(WILL, "leave \"\"", 2, 6);
        fault(WILL, "leave  \"\" to 2;", 2, 7);
        fault(WILL, "leave \"\"\"a\" to 2;", 2, 6);
        fault(WILL, "leave \"" + ROW + "a\"", 2, 6);
        fault(WILL, "leave \"" + Checks.times("a", 392) + "\"", 2, 6);
        fault(WILL, "rest to 2;leave \"\" to 2;", 2, 16);
        fault(WILL, "rest \"\" to 2;", 1, 5);
        can(WILL, "leave \"" + ROW + "\" to 2;", 1);
    }

    private static void seventeenthLine() {
        t.says("3 (at its KEYWORD) the 17th line of THE LAW");
        can(LAW, Checks.times("heir 1;", 16) + " \n ", 16);
        fault(LAW, Checks.times("heir 1;", 17), 3, 112);
        fault(LAW, Checks.times("heir 1;", 16) + "\n heir 1;", 3, 114);
        fault(LAW, Checks.times("heir 1;", 16) + "heir/", 3, 112);
        LetterHeirs x = Checks.founders(2);
        StringBuilder all = new StringBuilder();
        for (int i = 0; i < 16; i++) all.append("heir ").append(i + 1).append(" when letter=").append(i).append(';');
        t.due("sixteen", Checks.law(x, all.toString()), 16);
        for (int l = 0; l < 18; l++) t.due("WORTH of LETTER " + l, x.worth(0, 1, l), l < 16 ? l + 1 : 0);
    }

    private static void thirteenthLine() {
        t.says("3 (at its KEYWORD) the 13th of THE WILL");
        can(WILL, Checks.times("leave \"a\" to 0;", 12) + " ", 12);
        fault(WILL, Checks.times("leave \"a\" to 0;", 12) + "leave \"a\" to 0;", 3, 180);
        fault(WILL, Checks.times("leave \"a\" to 0;", 12) + "rest to 0;", 3, 180);
        fault(WILL, Checks.times("rest to 0;", 13), 3, 120);
        fault(WILL, Checks.times("rest to 0;", 12) + " leave", 3, 121);
        LetterHeirs x = Checks.founders(3);
        StringBuilder all = new StringBuilder();
        for (int i = 0; i < 12; i++) all.append("leave \"").append(ROW.charAt(i)).append("\" to ").append(i % 2 * 2).append(';');
        t.due("twelve", Checks.will(x, 1, all.toString()), 12);
        for (int l = 0; l < 13; l++) {
            x.own(l, 1);
            t.due("HEIR of LETTER " + l, x.inherit(1, l, 0), l < 12 ? l % 2 * 2 : NONE);
        }
    }

    private static void ninthOpen() {
        t.says("3 (at it) the 9th ( or not that is open");
        can(LAW, "heir 1 when " + Checks.times("(", 8) + "1=1" + Checks.times(")", 8) + ";", 1);
        can(LAW, "heir 1 when " + Checks.times("not ", 8) + "1=1;", 1);
        can(LAW, "heir 1 when " + Checks.times("not(", 4) + "1=1" + Checks.times(")", 4) + ";", 1);
        can(LAW, "heir 1 when " + Checks.times("(1=1) and ", 9) + "not 1=1;", 1);
        can(LAW, "heir 1 when " + Checks.times("not 1=1 or ", 9) + "(1=1);", 1);
        can(LAW, "heir 1 when " + Checks.times("(", 7) + "not 1=1 and not 1=1 and (1=1)" + Checks.times(")", 7) + ";", 1);
        fault(LAW, "heir 1 when " + Checks.times("(", 9) + "1=1", 3, 20);
        fault(LAW, "heir 1 when " + Checks.times("not ", 9) + "1=1;", 3, 44);
        fault(LAW, "heir 1 when " + Checks.times("(", 8) + "not 1=1", 3, 20);
        fault(LAW, "heir 1 when " + Checks.times("not ", 8) + "(1=1);", 3, 44);
        fault(LAW, "heir 1 when " + Checks.times("(", 8) + "1=1 and (1=1)", 3, 28);
        fault(LAW, "heir 1 when " + Checks.times("(", 8) + "1=1) and (not 1=1)", 3, 30);
        fault(LAW, "heir 1 when " + Checks.times("not(", 4) + "1=1 or not 1=1", 3, 35);
        condition(Checks.times("not ", 8) + "1=1", true);
        condition(Checks.times("not ", 7) + "1=1", false);
    }

    private static void fortyFirstSign() {
        t.says("3 (at it) the 41st sign of A DEED");
        can(DEED, Checks.times("a", 40) + " \n", 0);
        fault(DEED, Checks.times("a", 40) + "b", 3, 40);
        fault(DEED, Checks.times("a", 40) + " \n b", 3, 43);
        fault(DEED, Checks.times("a\n", 41), 3, 80);
        fault(DEED, Checks.times("z", 400), 3, 40);
    }

    private static void withoutASign() {
        t.says("4 (at the text's length) a DEED without a sign");
        fault(DEED, "", 4, 0);
        fault(DEED, " ", 4, 1);
        fault(DEED, "\n \n", 4, 3);
        fault(DEED, Checks.times(" ", 400), 4, 400);
        fault(DEED, " !", 1, 1);
        can(DEED, Checks.times(" ", 399) + "a", 0);
    }

    private static void worthOfLines() {
        t.says("E of the first line of THE LAW whose B is so, or that has none (none: 0)");
        LetterHeirs x = Checks.founders(3);
        Checks.law(x, "heir 1 when letter=0;heir 2 when letter<2;heir 3;heir 4 when letter=3;heir 5;");
        int[] due = {1, 2, 3, 3};
        for (int l = 0; l < 4; l++) t.due("LETTER " + l, x.worth(0, 1, l), due[l]);
        Checks.law(x, "heir 6 when letter=0;");
        t.due("its only line is so", x.worth(0, 1, 0), 6);
        t.due("it is not", x.worth(0, 1, 1), 0);
        Checks.law(x, "heir 0;heir 9;");
        t.due("the first one though it is 0", x.worth(0, 1, 0), 0);
        Checks.law(x, "heir 0-5;heir 9;");
        t.due("or below 0", x.worth(0, 1, 0), -5);
        Checks.law(x, "");
        t.due("no line", x.worth(0, 1, 0), 0);
    }

    private static void worthOfFacts() {
        t.says("letter; vowel: 1 for a, e, i, o, u, else 0; age: DAYS since he was BORN");
        LetterHeirs x = Checks.founders(2);
        Checks.law(x, "heir letter*2+vowel;");
        for (int l = 0; l < 28; l++) {
            int vowel = "aeiou".indexOf(ROW.charAt(l)) >= 0 ? 1 : 0;
            t.due("LETTER " + l, x.worth(0, 1, l), l * 2 + vowel);
        }
        Checks.law(x, "heir age*100+day;");
        t.due("on the first DAY", x.worth(0, 1, 0), 0);
        x.days(3);
        x.person(NONE, NONE, 0);
        t.due("three DAYS", x.worth(0, 1, 0), 303);
        t.due("BORN today", x.worth(0, 2, 0), 3);
        x.days(1);
        t.due("BORN yesterday", x.worth(0, 2, 0), 104);
        t.says("owns: how many LETTERS he OWNS then; skill, coin: his; day");
        Checks.law(x, "heir owns;");
        t.due("none", x.worth(0, 1, 0), 0);
        for (int l = 0; l < 28; l++) x.own(l, 1);
        t.due("all", x.worth(0, 1, 0), 28);
        t.due("who leaves has none: he is not asked", x.worth(1, 0, 0), 0);
        x.set(2, 1, 99);
        x.set(3, 1, 99999);
        Checks.law(x, "heir skill;");
        t.due("SKILL", x.worth(0, 1, 0), 99);
        t.due("SKILL of the other one", x.worth(1, 0, 0), 0);
        Checks.law(x, "heir coin;");
        t.due("COIN", x.worth(0, 1, 0), 99999);
        t.due("COIN of the other one", x.worth(1, 0, 0), 100);
    }

    private static void worthOfKin() {
        t.says("kin: KIN of both; child: 1, if he is a child of who leaves it, else 0; spouse: 1, if he is the SPOUSE, else 0");
        LetterHeirs x = Checks.founders(3);
        x.person(0, 1, 0);
        x.wed(0, 2);
        Checks.law(x, "heir kin*100+child*10+spouse;");
        int[][] due = {{0, 200, 101, 110}, {200, 0, 300, 110}, {101, 300, 0, 200}, {100, 100, 200, 0}};
        for (int a = 0; a < 4; a++) {
            for (int b = 0; b < 4; b++) t.due("worth(" + a + ", " + b + ")", x.worth(a, b, 0), due[a][b]);
        }
        x.part(0, 2);
        t.due("no SPOUSE any more", x.worth(0, 2, 0), 9900);
    }

    private static void heirByWill() {
        t.says("by the first line of THE WILL that names it, or rest, whose N LIVES (and whose other N, behind if, LIVES, too): N");
        LetterHeirs x = Checks.founders(6);
        x.own(0, 0);
        x.own(1, 0);
        Checks.law(x, "heir 1 when skill=5;");
        x.set(2, 5, 5);
        Checks.will(x, 0, "leave \"b\" to 1;leave \"ac\" to 2 if 3;rest to 4;leave \"a\" to 1;");
        t.due("named", x.inherit(0, 0, 0), 2);
        t.due("named first", x.inherit(0, 1, 0), 1);
        Checks.bury(x, 3);
        t.due("the other N does not LIVE: rest", x.inherit(0, 0, 0), 4);
        t.due("by THE WILL", x.inherit(0, 0, 1), 1);
        Checks.bury(x, 4);
        t.due("N of rest does not LIVE: the line behind", x.inherit(0, 0, 0), 1);
        Checks.bury(x, 1);
        t.due("no line more: by THE LAW", x.inherit(0, 0, 0), 5);
        t.due("not by THE WILL", x.inherit(0, 0, 1), 0);
        t.due("b, too", x.inherit(0, 1, 0), 5);
        Checks.will(x, 0, "rest to 5 if 4;rest to 3 if 2;rest to 2 if 2;rest to 5;");
        t.due("one and the same N", x.inherit(0, 0, 0), 2);
        Checks.will(x, 0, "rest to 5;leave \"a\" to 2;");
        t.due("rest before the line that names it", x.inherit(0, 0, 0), 5);
        t.due("by THE WILL", x.inherit(0, 0, 1), 1);
    }

    private static void heirByLaw() {
        t.says("Without one: of all who LIVE that one whose WORTH is greatest, if that is above 0; of several the least; else nobody");
        LetterHeirs x = Checks.founders(5);
        x.own(0, 2);
        Checks.law(x, "heir skill;");
        t.due("all 0", x.inherit(2, 0, 0), NONE);
        x.set(2, 4, 1);
        t.due("1 is above 0", x.inherit(2, 0, 0), 4);
        x.set(2, 1, 1);
        t.due("of two the least", x.inherit(2, 0, 0), 1);
        x.set(2, 2, 99);
        t.due("who dies does not LIVE", x.inherit(2, 0, 0), 1);
        x.set(2, 3, 2);
        t.due("the greatest", x.inherit(2, 0, 0), 3);
        Checks.bury(x, 3);
        t.due("who does not LIVE is none", x.inherit(2, 0, 0), 1);
        Checks.law(x, "heir skill-1;");
        t.due("0 is not above 0", x.inherit(2, 0, 0), NONE);
        Checks.law(x, "heir skill-2;");
        t.due("nor is what is below", x.inherit(2, 0, 0), NONE);
        Checks.law(x, "heir 7;");
        t.due("of all the least", x.inherit(2, 0, 0), 0);
        x.own(1, 0);
        t.due("of all but himself", x.inherit(0, 1, 0), 1);
        LetterHeirs y = Checks.founders(1);
        y.own(0, 0);
        Checks.law(y, "heir 7;");
        t.due("nobody else LIVES", y.inherit(0, 0, 0), NONE);
    }
}
