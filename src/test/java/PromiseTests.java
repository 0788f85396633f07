/** For each promise of the document: ordinary inputs, the edges that it names, wrong inputs. */
public final class PromiseTests {
    private static final int NONE = LetterHeirs.NONE;
    private static final Checks t = new Checks();

    public static void main(String[] args) {
        p01NewObject();
        p02State();
        p03Person();
        p04Set();
        p05Own();
        p06Feed();
        p07End();
        p08Law();
        p08Will();
        p08Deed();
        p08Text();
        p09Fault();
        p10Wed();
        p11Part();
        p12Lend();
        p13Give();
        p14Duel();
        p15Sign();
        p16Days();
        p16Deaths();
        p17Of();
        p18Kin();
        p19Letter();
        p20Deed();
        p21At();
        p22Book();
        p23Weddings();
        p23Order();
        fullHouse();
        askedFirst();
        p20Twelve();
        p24WhenCan();
        p25Hand();
        p26Inherit();
        p27Worth();
        p28Silent();
        p29Trace();
        p30Best();
        p31Dumb();
        p32Undo();
        p33Image();
        p33All();
        p34Look();
        t.close("PromiseTests");
    }

    private static void p01NewObject() {
        LetterHeirs x = new LetterHeirs();
        int[] due = {0, 0, 0, 1, 0, 0, 0, 0, 0, 268435455, 0};
        for (int what = 0; what < due.length; what++) t.due("1 look(" + what + ")", x.look(what), due[what]);
        t.due("1 of", x.of(0, 0), -2);
        t.due("1 letter", x.letter(27, 0), NONE);
        t.due("1 loan", x.letter(27, 1), NONE);
        t.due("1 last day", x.letter(27, 2), NONE);
        t.due("1 undo", x.undo(), false);
        t.due("1 image", x.image(false), false);
        t.due("1 fault", x.fault(0), 0);
        t.due("1 fault place", x.fault(1), NONE);
        t.due("1 end", x.end(1), false);
    }

    private static void p02State() {
        LetterHeirs x = Checks.founders(2);
        t.due("2 first", x.state(77), 0);
        t.due("2 second", x.state(-5), 77);
        t.due("2 look", x.look(6), -5);
        x.own(0, 0);
        x.state(1);
        x.duel(0, 1, 0);
        t.due("2 a draw", x.look(6), 1664525 + 1013904223);
        x.state(Integer.MIN_VALUE);
        t.due("2 forgets what can be undone", x.look(8), 0);
        t.due("2 least", x.state(0), Integer.MIN_VALUE);
    }

    private static void p03Person() {
        LetterHeirs x = new LetterHeirs();
        t.due("3 coin below", x.person(NONE, NONE, -1), NONE);
        t.due("3 coin above", x.person(NONE, NONE, 100000), NONE);
        t.due("3 mother not there", x.person(0, NONE, 0), NONE);
        t.due("3 first", x.person(NONE, NONE, 99999), 0);
        t.due("3 second", x.person(NONE, NONE, 0), 1);
        t.due("3 father not there", x.person(0, 2, 0), NONE);
        t.due("3 himself", x.person(2, NONE, 0), NONE);
        t.due("3 alike", x.person(1, 1, 0), NONE);
        t.due("3 below none", x.person(-2, NONE, 0), NONE);
        t.due("3 father below none", x.person(NONE, -2, 0), NONE);
        x.days(7);
        t.due("3 refused forgets nothing", x.person(5, 6, 0), NONE);
        t.due("3 kept", x.look(8), 7);
        t.due("3 child", x.person(1, 0, 5), 2);
        t.due("3 forgets", x.look(8), 0);
        t.due("3 mother", x.of(2, 0), 1);
        t.due("3 father", x.of(2, 1), 0);
        t.due("3 born", x.of(2, 2), 7);
        int[] due = {NONE, 0, 0, 5, NONE, 1, 0, 0, 0};
        for (int what = 3; what < 12; what++) t.due("3 of " + what, x.of(2, what), due[what - 3]);
        Checks.bury(x, 0);
        t.due("3 a dead parent", x.person(NONE, 0, 0), 3);
        for (int i = 4; i < 12; i++) t.due("3 number", x.person(NONE, NONE, i), i);
        t.due("3 thirteenth", x.person(NONE, NONE, 0), NONE);
        t.due("3 people", x.look(0), 12);
    }

    private static void p04Set() {
        LetterHeirs x = Checks.founders(2);
        x.days(10);
        t.due("4 dies today", x.set(0, 0, 10), false);
        t.due("4 refused forgets nothing", x.look(8), 8);
        t.due("4 dies tomorrow", x.set(0, 0, 11), true);
        t.due("4 forgets", x.look(8), 0);
        t.due("4 dies", x.of(0, 3), 11);
        t.due("4 dies last", x.set(0, 0, 9999), true);
        t.due("4 dies too late", x.set(0, 0, 10000), false);
        t.due("4 dies never", x.set(0, 0, -1), true);
        t.due("4 never", x.of(0, 3), NONE);
        t.due("4 dies below none", x.set(0, 0, -2), false);
        int[] most = {0, 9999, 99, 99999};
        for (int what = 1; what < 4; what++) {
            t.due("4 below " + what, x.set(what, 1, -1), false);
            t.due("4 above " + what, x.set(what, 1, most[what] + 1), false);
            t.due("4 most " + what, x.set(what, 1, most[what]), true);
            t.due("4 is " + what, x.of(1, what + 3), most[what]);
            t.due("4 least " + what, x.set(what, 1, 0), true);
            t.due("4 is least " + what, x.of(1, what + 3), 0);
        }
        t.due("4 near, nobody asked", x.set(4, -9, 0), true);
        t.due("4 near", x.look(3), 0);
        t.due("4 near most", x.set(4, 99, 3), true);
        t.due("4 near above", x.set(4, 0, 4), false);
        t.due("4 near below", x.set(4, 0, -1), false);
        t.due("4 near stays", x.look(3), 3);
        t.due("4 what 5", x.set(5, 0, 1), false);
        t.due("4 what -1", x.set(-1, 0, 1), false);
        t.due("4 not there", x.set(1, 2, 1), false);
        t.due("4 none", x.set(1, -1, 1), false);
        Checks.bury(x, 1);
        t.due("4 who does not live", x.set(1, 1, 1), false);
        t.due("4 nor dies again", x.set(0, 1, 500), false);
    }

    private static void p05Own() {
        LetterHeirs x = Checks.founders(3);
        t.due("5 own", x.own(27, 1), true);
        t.due("5 owner", x.letter(27, 0), 1);
        t.due("5 line", x.look(5), 1);
        x.lend(27, 0, 5, 0);
        t.due("5 again, the loan ends", x.own(27, 1), true);
        t.due("5 no loan", x.letter(27, 1), NONE);
        t.due("5 no last day", x.letter(27, 2), NONE);
        t.due("5 no change, no line", x.look(5), 1);
        t.due("5 forgets", x.look(8), 0);
        t.due("5 to nobody", x.own(27, NONE), true);
        t.due("5 from", x.book(1, 1), 1);
        t.due("5 to", x.book(1, 2), NONE);
        t.due("5 how", x.book(1, 4), 0);
        x.wed(0, 1);
        t.due("5 letter 28", x.own(28, 0), false);
        t.due("5 letter -1", x.own(-1, 0), false);
        t.due("5 person 3", x.own(0, 3), false);
        t.due("5 person -2", x.own(0, -2), false);
        t.due("5 refused forgets nothing", x.look(8), 1);
        Checks.bury(x, 2);
        t.due("5 who does not live", x.own(0, 2), false);
    }

    private static void p06Feed() {
        LetterHeirs x = new LetterHeirs();
        // "abcd" "efgh" "ijkl" "mnop" "qrst"
        t.due("6 twenty", x.feed(0x61626364, 0x65666768, 0x696a6b6c, 0x6d6e6f70, 0x71727374), 20);
        t.due("6 forty", x.feed(0x75767778, 0x797a2e2c, 0x20202020, 0x0a0a0a0a, 0x20202020), 40);
        t.due("6 deed", x.text(2, 0), 0);
        for (int i = 0; i < 28; i++) t.due("6 sign " + i, x.at(0, i), i);
        for (int i = 1; i <= 20; i++) t.due("6 feed", x.feed(0x20202020, 0x20202020, 0x20202020, 0x20202020, 0x20202020), 20 * i);
        t.due("6 too many", x.feed(0x61616161, 0, 0, 0, 0), NONE);
        t.due("6 nothing came", x.end(400), true);
        t.due("6 cut", x.end(381), true);
        t.due("6 still too many", x.feed(0, 0, 0, 0, 0), NONE);
        t.due("6 cut more", x.end(380), true);
        t.due("6 room again", x.feed(0x20202020, 0x20202020, 0x20202020, 0x20202020, 0xff202020), 400);
        t.due("6 the highest bit", x.text(2, 0), NONE);
        t.due("6 at its place", x.fault(1), 396);
    }

    private static void p07End() {
        LetterHeirs x = new LetterHeirs();
        t.due("7 empty", x.end(0), true);
        Checks.tape(x, "abcdef");
        t.due("7 has not so many", x.end(7), false);
        t.due("7 below 0", x.end(-1), false);
        t.due("7 all", x.end(6), true);
        t.due("7 three", x.end(3), true);
        t.due("7 has three", x.end(4), false);
        x.text(2, 0);
        t.due("7 deed of three", x.deed(0, 1), 3);
        t.due("7 empty by text()", x.end(1), false);
        Checks.tape(x, "heir 12;");
        x.end(6);
        t.due("7 the rest is no part of the law", x.text(0, 0), NONE);
        t.due("7 it ends there", x.fault(1), 6);
        Checks.tape(x, "heirs");
        x.end(4);
        t.due("7 nor of a keyword", x.text(0, 0), NONE);
        t.due("7 which ends there", x.fault(1), 4);
        x.person(NONE, NONE, 0);
        Checks.tape(x, "leave \"\"");
        x.end(7);
        t.due("7 nor of a row", x.text(1, 0), NONE);
        t.due("7 which does not end", x.fault(1), 7);
        Checks.tape(x, "heir 12345");
        x.end(9);
        t.due("7 nor of a number", x.text(0, 0), NONE);
        t.due("7 of four digits", x.fault(1), 9);
    }

    private static void lawFault(String text, int fault, int place) {
        LetterHeirs x = Checks.founders(3);
        Checks.law(x, "heir 7;");
        t.due("8 law '" + text + "'", Checks.law(x, text), NONE);
        t.due("8 fault of '" + text + "'", x.fault(0), fault);
        t.due("8 place in '" + text + "'", x.fault(1), place);
        t.due("8 tape after '" + text + "'", x.end(1), false);
        t.due("8 the law stays", x.worth(0, 1, 0), 7);
        t.due("8 its lines stay", x.look(7), 1);
    }

    private static void lawIs(String text, int lines, int worth) {
        LetterHeirs x = Checks.founders(2);
        t.due("8 law '" + text + "'", Checks.law(x, text), lines);
        t.due("8 no fault of '" + text + "'", x.fault(0), 0);
        t.due("8 lines of '" + text + "'", x.look(7), lines);
        t.due("8 worth by '" + text + "'", x.worth(0, 1, 3), worth);
    }

    private static void p08Law() {
        lawIs("", 0, 0);
        lawIs(" \n ", 0, 0);
        lawIs("heir 5;", 1, 5);
        lawIs("heir5;heir 6 ;\n", 2, 5);
        lawIs("heir 0009;", 1, 9);
        lawIs("heir 2+3*4-1;", 1, 13);
        lawIs("heir 7-2-1;", 1, 4);
        lawIs("heir 1-7/2*2;", 1, -5);
        lawIs("heir 7*3/2;", 1, 10);
        lawIs("heir 1-2*3/4/1+1;", 1, 1);
        lawIs("heir1" + Checks.times("+1", 197) + ";", 1, 198);
        lawIs("heir 9999*9999*9999;", 1, 9999 * 9999 * 9999);
        lawIs("heir letter;", 1, 3);
        lawIs("heir coin when coin=100;", 1, 100);
        lawIs("heir 1 when coin=99;heir 2;", 2, 2);
        lawIs("heir 1 when coin<100 or coin>100;heir 2 when 1=1 and 2=3;heir 3;", 3, 3);
        lawIs("heir 1 when 1=1 or 1=1 and 1=2;", 1, 1);
        lawIs("heir 1 when (1=1 or 1=1) and 1=2;", 1, 0);
        lawIs("heir 1 when not 1=1 or 2=2;", 1, 1);
        lawIs("heir 1 when not (1=1 or 2=2);", 1, 0);
        lawIs("heir 1 when not not 1=1;", 1, 1);
        lawIs("heir 1 when not 1=2 and not 2=3;", 1, 1);
        lawIs("heir 3 when 1=2 or 1=2 or 3=3;", 1, 3);
        lawIs("heir 3 when 3=3 or 1=2 or 1=2;", 1, 3);
        lawIs("heir 3 when 1=2 or 3=3 or 1=2;", 1, 3);
        lawIs("heir 3 when 1=2 or 3=3 and 4=4 or 1=2 or 2=3;", 1, 3);
        lawIs("heir 3 when 1=2 and 3=3;", 1, 0);
        lawIs("heir 3 when 1=2 and 3=3 and 4=4;", 1, 0);
        lawIs("heir 3 when 1=2 and 3=3 or 1=2 and 4=4;", 1, 0);
        lawIs("heir 3 when 1+1<1*3 and 0-5/2=0-2;", 1, 3);
        lawIs(Checks.times("heir 4 when 1=2;", 15) + "heir 8;", 16, 8);
        lawIs("heir 1 when " + Checks.times("(", 8) + "1=1" + Checks.times(")", 8) + ";", 1, 1);
        lawIs("heir 1 when " + Checks.times("not ", 8) + "1=1;", 1, 1);
        lawIs("heir 1 when " + Checks.times("not(", 4) + "1=1" + Checks.times(")", 4) + " and " + Checks.times("(", 8) + "1=1"
            + Checks.times(")", 8) + ";", 1, 1);
        lawFault("heir", 1, 4);
        lawFault("heir  ", 1, 6);
        lawFault("heir 1", 1, 6);
        lawFault("heirs 1;", 1, 0);
        lawFault("hei 1;", 1, 0);
        lawFault("heirz 1;", 1, 0);
        lawFault("aheir 1;", 1, 0);
        lawFault("heirX", 1, 0);
        lawFault("heirX 1;", 1, 0);
        lawFault("Xheir 1;", 1, 0);
        lawFault("Heir 1;", 1, 0);
        lawFault("heir ageA;", 1, 5);
        lawFault("heir 1 whenZ 1=1;", 1, 7);
        lawFault("heir 1 when 1=1 aNd 1=1;", 1, 16);
        lawFault("heir 1 when notM 1=1;", 1, 12);
        lawFault("heir 1X;", 1, 6);
        lawFault("heir X1;", 1, 5);
        for (char beside : new char[] {'@', '[', '`', '{', (char) 233}) lawFault("heir" + beside + " 1;", 1, 4);
        lawFault(" when 1;", 1, 1);
        lawFault("heir heir;", 1, 5);
        lawFault("heir ;", 1, 5);
        lawFault("heir 1+;", 1, 7);
        lawFault("heir 1-;", 1, 7);
        lawFault("heir 1*;", 1, 7);
        lawFault("heir 1/;", 1, 7);
        lawFault("heir 1 when;", 1, 11);
        lawFault("heir 1 when 1=;", 1, 14);
        lawFault("heir 1 when 1=1 or;", 1, 18);
        lawFault("heir 1 when 1=1 and;", 1, 19);
        lawFault("heir 1 when not;", 1, 15);
        lawFault("heir 1 when (;", 1, 13);
        lawFault("heir leave;", 1, 5);
        lawFault("heir 12345;", 1, 5);
        lawFault("heir 1 2;", 1, 7);
        lawFault("heir 1;;", 1, 7);
        lawFault("heir -1;", 1, 5);
        lawFault("heir (1);", 1, 5);
        lawFault("heir 1 when 1;", 1, 13);
        lawFault("heir 1 when 1=1=1;", 1, 15);
        lawFault("heir 1 when (1=1;", 1, 16);
        lawFault("heir 1 when 1=1);", 1, 15);
        lawFault("heir 1 when (1)=1;", 1, 14);
        lawFault("heir 1 when or 1=1;", 1, 12);
        lawFault("heir 1 when 1=1 not 1=1;", 1, 16);
        lawFault("heir 1 # when", 1, 7);
        lawFault("heir 1" + (char) 233 + ";", 1, 6);
        lawFault("heir 1\t;", 1, 6);
        lawFault("heir \"a\";", 1, 5);
        lawFault("heir 1/kin;", 1, 7);
        lawFault("heir 1/0;", 2, 7);
        lawFault("heir 1/ 0000 ;", 2, 8);
        lawFault("heir 1/00000;", 1, 7);
        lawFault("heir 1 when 1/0=1 ?", 2, 14);
        lawFault(Checks.times("heir 1;", 16) + " heir 1;", 3, 113);
        lawFault(Checks.times("heir 1;", 16) + " when", 1, 113);
        lawFault("heir 1 when " + Checks.times("(", 9) + "1=1", 3, 20);
        lawFault("heir 1 when " + Checks.times("not ", 9) + "1=1", 3, 44);
        lawFault("heir 1 when " + Checks.times("(not ", 4) + "(1=1", 3, 32);
        lawFault("heir 1 when " + Checks.times("(not ", 4) + "1=1", 1, 35);
        lawFault("heir 1 when not 1=1 and " + Checks.times("(", 8) + "not 1=1", 3, 32);
        LetterHeirs x = Checks.founders(2);
        Checks.law(x, "heir 1;heir 2;");
        for (int i = 0; i < 9; i++) {
            t.due("8 a long law anew", Checks.law(x, "heir 1" + Checks.times("+1*2", 60) + "+" + i + ";"), 1);
            t.due("8 its worth", x.worth(0, 1, 0), 121 + i);
        }
        t.due("8 two lines", Checks.law(x, "heir 1 when 1=2;heir 2;"), 2);
        t.due("8 a shorter one anew", Checks.law(x, "heir 1 when 1=2;"), 1);
        t.due("8 the longer one is gone", x.worth(0, 1, 0), 0);
        t.due("8 an empty law", Checks.law(x, ""), 0);
        t.due("8 is the law", x.look(7), 0);
    }

    private static void willFault(String text, int fault, int place) {
        LetterHeirs x = Checks.founders(3);
        Checks.will(x, 1, "rest to 2;");
        t.due("8 will '" + text + "'", Checks.will(x, 1, text), NONE);
        t.due("8 fault of '" + text + "'", x.fault(0), fault);
        t.due("8 place in '" + text + "'", x.fault(1), place);
        t.due("8 tape after '" + text + "'", x.end(1), false);
        t.due("8 the will stays", x.of(1, 11), 1);
        x.own(0, 1);
        t.due("8 and its heir", x.inherit(1, 0, 0), 2);
    }

    private static void p08Will() {
        String row = "abcdefghijklmnopqrstuvwxyz.,";
        LetterHeirs x = Checks.founders(4);
        t.due("8 will", Checks.will(x, 1, "leave\"" + row + "\"to 2;rest to 0003 if 0;"), 2);
        t.due("8 lines", x.of(1, 11), 2);
        t.due("8 others have none", x.of(0, 11), 0);
        t.due("8 alike signs", Checks.will(x, 1, " leave \"aa\" to 2 ; "), 1);
        x.own(0, 1);
        t.due("8 two lines", Checks.will(x, 1, "leave \"b\" to 2;rest to 3;"), 2);
        t.due("8 the second one's heir", x.inherit(1, 0, 0), 3);
        t.due("8 a shorter one anew", Checks.will(x, 1, "leave \"b\" to 2;"), 1);
        t.due("8 the longer one is gone", x.inherit(1, 0, 0), NONE);
        t.due("8 twelve", Checks.will(x, 1, Checks.times("rest to 0;", 12)), 12);
        t.due("8 no line", Checks.will(x, 1, ""), 0);
        t.due("8 empty", x.of(1, 11), 0);
        willFault("leave", 1, 5);
        willFault("leave \"a\" to 2", 1, 14);
        willFault("leave \"a\" to;", 1, 12);
        willFault("leave \"a\" 2;", 1, 10);
        willFault("leave a to 2;", 1, 6);
        willFault("leave 2 to 2;", 1, 6);
        willFault("rest \"a\" to 2;", 1, 5);
        willFault("rest \"\" to 2;", 1, 5);
        willFault("rest \"!", 1, 5);
        willFault("heir 1;", 1, 0);
        willFault("restX to 2;", 1, 0);
        willFault("leaveA\"a\" to 2;", 1, 0);
        willFault("leave \"a\" tO 2;", 1, 10);
        willFault("leave \"a\"Zto 2;", 1, 9);
        willFault("rest toZ 2;", 1, 5);
        willFault("rest to 2 ifA 0;", 1, 10);
        willFault("rest to 2X;", 1, 9);
        for (char beside : new char[] {'@', '[', '`', '{', (char) 233}) willFault("rest" + beside + " to 2;", 1, 4);
        willFault("rest to 2 if;", 1, 12);
        willFault("rest to 2 if 0 if 0;", 1, 15);
        willFault("rest to 2 + 1;", 1, 10);
        willFault("rest to 00002;", 1, 8);
        willFault("leave \"a b\" to 2;", 1, 8);
        willFault("leave \"aB\" to 2;", 1, 8);
        willFault("leave \"a to 2;", 1, 8);
        willFault("leave \"abc", 1, 10);
        willFault("leave \"", 1, 7);
        willFault("leave \"" + row + row, 1, 63);
        willFault("leave \"" + row + row + "!\"", 1, 63);
        willFault("leave \"\" to 2;", 2, 6);
        willFault("leave \"" + row + "a\" to 9;", 2, 6);
        willFault("rest to 1;", 2, 8);
        willFault("rest to 3;", 2, 8);
        willFault("rest to 9999;", 2, 8);
        willFault("rest to 0 if 3;", 2, 13);
        willFault("rest to 0 if 1;", 2, 13);
        willFault(Checks.times("rest to 2;", 12) + "\nleave", 3, 121);
        willFault(Checks.times("rest to 2;", 12) + "rest", 3, 120);
        willFault(Checks.times("rest to 2;", 12) + "to", 1, 120);
        Checks.bury(x, 3);
        t.due("8 of who does not live", Checks.will(x, 3, "?"), NONE);
        t.due("8 is no fault", x.fault(0), 0);
        t.due("8 one who does not live may be named", Checks.will(x, 1, "rest to 3;"), 1);
        t.due("8 of nobody", Checks.will(x, 4, "?"), NONE);
        t.due("8 no fault either", x.fault(0), 0);
        t.due("8 of none", Checks.will(x, -1, "?"), NONE);
    }

    private static void deedFault(String text, int fault, int place) {
        LetterHeirs x = new LetterHeirs();
        t.due("8 deed '" + text + "'", Checks.deed(x, text), NONE);
        t.due("8 fault of '" + text + "'", x.fault(0), fault);
        t.due("8 place in '" + text + "'", x.fault(1), place);
        t.due("8 tape after '" + text + "'", x.end(1), false);
        t.due("8 deeds", x.look(4), 0);
    }

    private static void p08Deed() {
        deedFault("", 4, 0);
        deedFault(" \n ", 4, 3);
        deedFault("ab!", 1, 2);
        deedFault("aB", 1, 1);
        deedFault("a\tb", 1, 1);
        deedFault("a" + (char) 0 + "b", 1, 1);
        deedFault("a" + (char) 225, 1, 1);
        deedFault(Checks.times("a ", 40) + " b", 3, 81);
        deedFault(Checks.times("a", 40) + "?", 1, 40);
        LetterHeirs x = new LetterHeirs();
        t.due("8 forty", Checks.deed(x, Checks.times(" .", 40) + "\n"), 0);
        t.due("8 its signs", x.deed(0, 1), 40);
        for (int i = 1; i < 8; i++) t.due("8 number", Checks.deed(x, "a"), i);
        t.due("8 a ninth", Checks.deed(x, "?"), NONE);
        t.due("8 is no fault", x.fault(0), 0);
        t.due("8 the tape is empty", x.end(1), false);
    }

    private static void p08Text() {
        LetterHeirs x = Checks.founders(1);
        x.days(3);
        t.due("8 no such one", x.text(3, 0), NONE);
        t.due("8 nor below", x.text(-1, 0), NONE);
        Checks.tape(x, "heir 1;");
        t.due("8 the tape is empty by no such one", x.text(9, 0), NONE);
        t.due("8 empty", x.end(1), false);
        Checks.law(x, "heir 1;");
        Checks.will(x, 0, "");
        Checks.deed(x, "a");
        t.due("8 texts forget nothing", x.look(8), 3);
        Checks.tape(x, "heir 1;heir 1;");
        t.due("8 person not asked for the law", x.text(0, -7), 2);
        Checks.tape(x, "z");
        t.due("8 nor for a deed", x.text(2, 99), 1);
    }

    private static void p09Fault() {
        LetterHeirs x = Checks.founders(1);
        t.due("9 before", x.fault(0), 0);
        Checks.law(x, "heir ?");
        t.due("9 fault", x.fault(0), 1);
        t.due("9 place", x.fault(1), 5);
        t.due("9 what 2", x.fault(2), NONE);
        t.due("9 what -1", x.fault(-1), NONE);
        t.due("9 told again", x.fault(1), 5);
        Checks.tape(x, "a");
        t.due("9 feeding changes nothing", x.fault(0), 1);
        x.text(2, 0);
        t.due("9 of the latest", x.fault(0), 0);
        t.due("9 no place", x.fault(1), NONE);
        Checks.law(x, "?");
        x.text(7, 0);
        t.due("9 can't be", x.fault(0), 0);
        t.due("9 no place of it", x.fault(1), NONE);
    }

    private static void p10Wed() {
        LetterHeirs x = Checks.founders(5);
        x.person(0, 1, 0);
        x.person(2, 0, 0);
        x.person(NONE, 1, 0);
        t.due("10 himself", x.wed(3, 3), false);
        t.due("10 parent", x.wed(0, 5), false);
        t.due("10 child", x.wed(5, 1), false);
        t.due("10 mother of one, father of the other", x.wed(5, 6), false);
        t.due("10 a father in common", x.wed(7, 5), false);
        t.due("10 not there", x.wed(3, 8), false);
        t.due("10 none", x.wed(NONE, 3), false);
        t.due("10 nothing kept", x.look(8), 0);
        t.due("10 no parent in common", x.wed(6, 7), true);
        t.due("10 kept", x.look(8), 1);
        t.due("10 spouse", x.of(6, 7), 7);
        t.due("10 and his", x.of(7, 7), 6);
        t.due("10 has one", x.wed(6, 3), false);
        t.due("10 has one, turned", x.wed(3, 7), false);
        t.due("10 two more", x.wed(4, 3), true);
        Checks.bury(x, 2);
        t.due("10 who does not live", x.wed(2, 0), false);
        Checks.bury(x, 3);
        t.due("10 a widow", x.wed(4, 0), true);
        t.due("10 who died keeps his", x.of(3, 7), 4);
        t.due("10 kin by both", x.kin(3, 0), 2);
    }

    private static void p11Part() {
        LetterHeirs x = Checks.founders(4);
        x.wed(0, 1);
        x.wed(2, 3);
        t.due("11 not his", x.part(0, 2), false);
        t.due("11 himself", x.part(0, 0), false);
        t.due("11 not there", x.part(0, 4), false);
        t.due("11 none", x.part(NONE, 0), false);
        t.due("11 none behind", x.part(0, NONE), false);
        t.due("11 part", x.part(1, 0), true);
        t.due("11 none then", x.of(0, 7), NONE);
        t.due("11 nor he", x.of(1, 7), NONE);
        t.due("11 kin", x.kin(0, 1), 99);
        t.due("11 kept", x.look(8), 3);
        t.due("11 again", x.part(0, 1), false);
        Checks.bury(x, 2);
        t.due("11 from who does not live", x.part(2, 3), false);
        t.due("11 from who does not live, turned", x.part(3, 2), false);
    }

    private static void p12Lend() {
        LetterHeirs x = Checks.founders(4);
        x.own(0, 0);
        x.own(1, 0);
        x.days(5);
        t.due("12 no owner", x.lend(2, 1, 1, 0), false);
        t.due("12 himself", x.lend(0, 0, 1, 0), false);
        t.due("12 not there", x.lend(0, 4, 1, 0), false);
        t.due("12 nobody", x.lend(0, NONE, 1, 0), false);
        t.due("12 letter 28", x.lend(28, 1, 1, 0), false);
        t.due("12 letter -1", x.lend(-1, 1, 1, 0), false);
        t.due("12 no day", x.lend(0, 1, 0, 0), false);
        t.due("12 100 days", x.lend(0, 1, 100, 0), false);
        t.due("12 coins below", x.lend(0, 1, 1, -1), false);
        t.due("12 coins he has not", x.lend(0, 1, 1, 101), false);
        t.due("12 nothing kept", x.look(8), 5);
        t.due("12 lend", x.lend(0, 1, 99, 100), true);
        t.due("12 kept", x.look(8), 6);
        t.due("12 to", x.letter(0, 1), 1);
        t.due("12 last day", x.letter(0, 2), 104);
        t.due("12 his coins", x.of(1, 6), 0);
        t.due("12 the owner's", x.of(0, 6), 200);
        t.due("12 the owner stays", x.letter(0, 0), 0);
        t.due("12 no line", x.look(5), 2);
        t.due("12 lent already", x.lend(0, 2, 1, 0), false);
        x.set(3, 0, 99950);
        t.due("12 too many coins", x.lend(1, 2, 1, 50), false);
        t.due("12 just so many", x.lend(1, 2, 1, 49), true);
        t.due("12 most", x.of(0, 6), 99999);
        x.own(3, 3);
        t.due("12 writes what is lent", x.of(2, 10), 2);
        t.due("12 the owner can't", x.of(0, 10), 0);
        x.days(1);
        t.due("12 on its last day", x.letter(1, 1), 2);
        x.days(1);
        t.due("12 behind it", x.letter(1, 1), NONE);
        t.due("12 the owner can again", x.of(0, 10), 2);
        Checks.bury(x, 2);
        t.due("12 to who does not live", x.lend(1, 2, 1, 0), false);
    }

    private static void p13Give() {
        LetterHeirs x = Checks.founders(4);
        x.own(5, 0);
        t.due("13 no owner", x.give(4, 1), false);
        t.due("13 himself", x.give(5, 0), false);
        t.due("13 letter 28", x.give(28, 0), false);
        t.due("13 letter -1", x.give(-1, 0), false);
        t.due("13 not there", x.give(5, 4), false);
        t.due("13 nobody", x.give(5, NONE), false);
        t.due("13 nothing kept", x.look(8), 0);
        t.due("13 give", x.give(5, 1), true);
        t.due("13 owner", x.letter(5, 0), 1);
        int[] line = {5, 0, 1, 0, 1};
        for (int what = 0; what < 5; what++) t.due("13 book " + what, x.book(1, what), line[what]);
        t.due("13 kept", x.look(8), 1);
        x.lend(5, 2, 3, 0);
        t.due("13 lent", x.give(5, 3), false);
        t.due("13 lent to him", x.give(5, 2), false);
        x.own(5, 1);
        Checks.bury(x, 2);
        t.due("13 to who does not live", x.give(5, 2), false);
    }

    private static void p14Duel() {
        LetterHeirs x = Checks.founders(4);
        x.own(0, 0);
        t.due("14 himself", x.duel(0, 0, 0), NONE);
        t.due("14 neither owns it", x.duel(1, 2, 0), NONE);
        t.due("14 no owner", x.duel(0, 1, 1), NONE);
        t.due("14 letter 28", x.duel(0, 1, 28), NONE);
        t.due("14 letter -1", x.duel(0, 1, -1), NONE);
        t.due("14 not there", x.duel(0, 4, 0), NONE);
        t.due("14 none", x.duel(NONE, 0, 0), NONE);
        t.due("14 no draw", x.look(6), 0);
        t.due("14 nothing kept", x.look(8), 0);
        x.set(2, 0, 3);
        x.set(2, 1, 5);
        // 1013904223 >>> 8 is 3960563; modulo 10 that is 3: below 4, not below 3
        x.lend(0, 2, 3, 0);
        t.due("14 below his skill and 1", x.duel(0, 1, 0), 0);
        t.due("14 the loan ends", x.letter(0, 1), NONE);
        t.due("14 no change, no line", x.look(5), 1);
        t.due("14 drawn", x.look(6), 1013904223);
        t.due("14 kept", x.look(8), 2);
        x.set(2, 0, 2);
        x.set(2, 1, 6);
        x.state(0);
        t.due("14 not below", x.duel(0, 1, 0), 1);
        int[] line = {0, 0, 1, 0, 2};
        for (int what = 0; what < 5; what++) t.due("14 book " + what, x.book(1, what), line[what]);
        x.set(2, 3, 99);
        x.state(0);
        // modulo 107: 3960563 - 107 * 37014 = 65: below 100
        t.due("14 the other one owns it", x.duel(3, 1, 0), 3);
        x.state(Integer.MIN_VALUE);
        // the draw counts without sign: (MIN_VALUE * 1664525 + 1013904223) >>> 8 is 12349171, modulo 103 that is 78
        t.due("14 without sign", x.duel(0, 3, 0), 3);
        t.due("14 state then", x.look(6), Integer.MIN_VALUE * 1664525 + 1013904223);
        Checks.bury(x, 1);
        t.due("14 who does not live", x.duel(3, 1, 0), NONE);
    }

    private static void p15Sign() {
        LetterHeirs x = Checks.founders(4);
        x.own(0, 0);
        x.own(1, 1);
        x.own(2, 2);
        Checks.deed(x, "abcd");
        t.due("15 nobody", x.sign(0, 0), NONE);
        t.due("15 not there", x.sign(0, 16), NONE);
        t.due("15 one of them not there", x.sign(0, 17), NONE);
        t.due("15 below", x.sign(0, -1), NONE);
        t.due("15 no deed", x.sign(1, 1), NONE);
        t.due("15 deed -1", x.sign(-1, 1), NONE);
        t.due("15 nothing kept", x.look(8), 0);
        t.due("15 not signed", x.deed(0, 2), 0);
        x.days(4);
        t.due("15 forged", x.sign(0, 3), 12);
        t.due("15 signed by", x.deed(0, 2), 3);
        t.due("15 forged then", x.deed(0, 3), 12);
        t.due("15 on", x.deed(0, 4), 4);
        t.due("15 kept", x.look(8), 5);
        x.days(1);
        t.due("15 anew", x.sign(0, 4), 11);
        t.due("15 by", x.deed(0, 2), 4);
        t.due("15 day", x.deed(0, 4), 5);
        x.own(3, 3);
        t.due("15 as it was then", x.deed(0, 3), 11);
        t.due("15 no letter forged", x.sign(0, 15), 0);
        Checks.bury(x, 1);
        t.due("15 one does not live", x.sign(0, 3), NONE);
        t.due("15 the rest stays", x.deed(0, 2), 15);
    }

    private static void p16Days() {
        LetterHeirs x = Checks.founders(3);
        t.due("16 none", x.days(0), NONE);
        t.due("16 below", x.days(-1), NONE);
        t.due("16 above", x.days(101), NONE);
        t.due("16 hundred", x.days(100), 0);
        t.due("16 eight are kept", x.look(8), 8);
        for (int i = 1; i < 99; i++) x.days(100);
        t.due("16 day", x.look(2), 9900);
        t.due("16 too late", x.days(100), NONE);
        t.due("16 nothing done", x.look(2), 9900);
        x.set(0, 2, 9999);
        t.due("16 the last ones", x.days(99), 1);
        t.due("16 last day", x.look(2), 9999);
        t.due("16 no more", x.days(1), NONE);
        t.due("16 no day is left to die on", x.set(0, 0, 9999), false);
        x.own(0, 0);
        t.due("16 a loan may go beyond", x.lend(0, 1, 99, 0), true);
        t.due("16 its last day", x.letter(0, 2), 10098);
    }

    private static void p16Deaths() {
        LetterHeirs x = Checks.founders(4);
        x.wed(0, 1);
        x.own(0, 0);
        x.own(1, 0);
        x.own(2, 1);
        x.set(0, 0, 2);
        x.set(0, 1, 2);
        x.lend(0, 2, 9, 0);
        x.lend(2, 0, 9, 0);
        Checks.will(x, 0, "rest to 1;");
        Checks.will(x, 1, "leave \"b\" to 3;");
        t.due("16 the day before", x.days(1), 0);
        t.due("16 both, by number", x.days(1), 2);
        t.due("16 who lives", x.look(1), 12);
        int[][] lines = {{0, 0, 1, 2, 3}, {1, 0, 1, 2, 3}, {0, 1, NONE, 2, 4}, {1, 1, 3, 2, 3}, {2, 1, NONE, 2, 4}};
        for (int i = 0; i < lines.length; i++) {
            for (int what = 0; what < 5; what++) t.due("16 line " + i + "," + what, x.book(3 + i, what), lines[i][what]);
        }
        t.due("16 a loan stays", x.letter(0, 1), 2);
        t.due("16 though nobody owns it", x.of(2, 10), 1);
        t.due("16 that to who dies ends", x.letter(2, 1), NONE);
        t.due("16 he keeps his spouse", x.of(0, 7), 1);
        t.due("16 she has none", x.of(1, 7), NONE);
        t.due("16 nothing drawn", x.look(6), 0);
        x.set(1, 2, 9999);
        x.set(0, 3, 3);
        x.set(1, 3, 9999);
        // 3960563 modulo 10000 is 563: 2 dies by the draw, 3 without one
        t.due("16 frail", x.days(1), 2);
        t.due("16 one draw", x.look(6), 1013904223);
        t.due("16 that day", x.of(2, 3), 3);
        LetterHeirs y = Checks.founders(2);
        y.set(1, 0, 563);
        y.set(1, 1, 0);
        t.due("16 not below", y.days(1), 0);
        t.due("16 one draw for one", y.look(6), 1013904223);
        y.state(0);
        y.set(1, 0, 564);
        y.set(0, 0, 9);
        t.due("16 below", y.days(1), 1);
        t.due("16 dies then", y.of(0, 3), 2);
        t.due("16 no draw for who died", y.days(1), 0);
        t.due("16 state", y.look(6), 1013904223);
    }

    private static void p17Of() {
        LetterHeirs x = Checks.founders(3);
        x.person(0, 1, 42);
        x.wed(1, 2);
        x.own(0, 0);
        x.own(1, 1);
        x.own(27, 1);
        int[] due = {NONE, NONE, 0, NONE, 0, 0, 100, 2, 1, 134217730, 134217730, 0};
        for (int what = 0; what < 12; what++) t.due("17 of 1, " + what, x.of(1, what), due[what]);
        t.due("17 a child writes", x.of(3, 10), 134217731);
        t.due("17 a child owns", x.of(3, 9), 0);
        t.due("17 mother", x.of(3, 0), 0);
        t.due("17 father", x.of(3, 1), 1);
        t.due("17 coin", x.of(3, 6), 42);
        t.due("17 what 12", x.of(0, 12), -2);
        t.due("17 what -1", x.of(0, -1), -2);
        t.due("17 not there", x.of(4, 0), -2);
        t.due("17 none", x.of(NONE, 0), -2);
        Checks.will(x, 1, "rest to 0;rest to 2;");
        Checks.bury(x, 1);
        t.due("17 does not live", x.of(1, 8), 0);
        t.due("17 writes nothing", x.of(1, 10), 0);
        t.due("17 owns nothing", x.of(1, 9), 0);
        t.due("17 his day", x.of(1, 3), 1);
        t.due("17 his will", x.of(1, 11), 2);
        t.due("17 born", x.of(1, 2), 0);
    }

    private static void p18Kin() {
        LetterHeirs x = Checks.founders(3);
        x.person(0, 1, 0);
        x.person(NONE, 3, 0);
        x.person(1, NONE, 0);
        t.due("18 himself", x.kin(2, 2), 0);
        t.due("18 mother", x.kin(3, 0), 1);
        t.due("18 father", x.kin(3, 1), 1);
        t.due("18 child", x.kin(1, 3), 1);
        t.due("18 grandmother", x.kin(4, 0), 2);
        t.due("18 by two parents", x.kin(0, 1), 2);
        t.due("18 half brother", x.kin(5, 3), 2);
        t.due("18 nephew", x.kin(5, 4), 3);
        t.due("18 far", x.kin(0, 5), 3);
        t.due("18 no way", x.kin(0, 2), 99);
        t.due("18 not there", x.kin(0, 6), NONE);
        t.due("18 none", x.kin(NONE, NONE), NONE);
        x.wed(2, 5);
        t.due("18 spouse", x.kin(2, 5), 1);
        t.due("18 by the spouse", x.kin(2, 3), 3);
        Checks.bury(x, 5);
        t.due("18 whose spouse he is", x.kin(2, 5), 1);
        t.due("18 over who does not live", x.kin(2, 3), 3);
        t.due("18 of who does not live", x.kin(5, 4), 3);
        LetterHeirs y = Checks.founders(1);
        for (int i = 1; i < 12; i++) y.person(NONE, i - 1, 0);
        t.due("18 the longest way", y.kin(0, 11), 11);
    }

    private static void p19Letter() {
        LetterHeirs x = Checks.founders(4);
        x.person(0, 1, 0);
        x.own(7, 0);
        x.own(7, 1);
        x.own(8, 2);
        t.due("19 owner", x.letter(7, 0), 1);
        t.due("19 lent to nobody", x.letter(7, 1), NONE);
        t.due("19 no last day", x.letter(7, 2), NONE);
        t.due("19 who can", x.letter(7, 3), 18);
        t.due("19 changes", x.letter(7, 4), 2);
        x.lend(7, 3, 5, 0);
        t.due("19 lent to", x.letter(7, 1), 3);
        t.due("19 last day", x.letter(7, 2), 5);
        t.due("19 he can alone", x.letter(7, 3), 8);
        t.due("19 nobody can", x.letter(0, 3), 0);
        t.due("19 no change", x.letter(0, 4), 0);
        t.due("19 what 6", x.letter(0, 6), -2);
        t.due("19 what -1", x.letter(0, -1), -2);
        t.due("19 letter 28", x.letter(28, 0), -2);
        t.due("19 letter -1", x.letter(-1, 0), -2);
        Checks.deed(x, "h");
        Checks.deed(x, "hi");
        Checks.deed(x, "ha");
        // 3 can h. Who could h: all five deed 0, 2 deed 1 as well; 3 can deed 0 already
        t.due("19 value of h", x.letter(7, 5), 5);
        t.due("19 value of i", x.letter(8, 5), 1);
        t.due("19 value of a", x.letter(0, 5), 1);
        t.due("19 value of b", x.letter(1, 5), 0);
        Checks.bury(x, 4);
        t.due("19 value for who lives", x.letter(7, 5), 4);
        x.set(4, 0, 0);
        x.own(7, 1);
        t.due("19 near 0", x.letter(7, 3), 2);
        x.set(4, 0, 2);
        t.due("19 near 2, over who does not live", x.letter(7, 3), 3);
    }

    private static void p20Deed() {
        LetterHeirs x = Checks.founders(5);
        x.own(0, 4);
        x.own(1, 3);
        x.own(2, 4);
        Checks.deed(x, "abba c");
        Checks.deed(x, "ca");
        Checks.deed(x, "z");
        int[] due = {7, 5, 0, 0, NONE, 24, 0, 24};
        for (int what = 0; what < 8; what++) t.due("20 deed " + what, x.deed(0, what), due[what]);
        t.due("20 signers", x.deed(1, 5), 16);
        t.due("20 alone", x.deed(1, 6), 16);
        t.due("20 needed", x.deed(1, 7), 16);
        t.due("20 no signers", x.deed(2, 5), NONE);
        t.due("20 nobody alone", x.deed(2, 6), 0);
        t.due("20 nobody needed", x.deed(2, 7), 0);
        t.due("20 what 8", x.deed(0, 8), -2);
        t.due("20 what -1", x.deed(0, -1), -2);
        t.due("20 deed 3", x.deed(3, 0), -2);
        t.due("20 deed -1", x.deed(-1, 0), -2);
        x.wed(1, 3);
        x.wed(0, 4);
        // a, c: 0 and 4; b: 1 and 3
        t.due("20 the least pair", x.deed(0, 5), 3);
        t.due("20 both can", x.deed(1, 6), 17);
        t.due("20 the least one", x.deed(1, 5), 1);
        t.due("20 nobody is needed", x.deed(0, 7), 0);
        x.lend(0, 2, 9, 0);
        // a: 2; c: 0 and 4; b: 1 and 3
        t.due("20 three of them", x.deed(0, 5), 7);
        t.due("20 he is needed", x.deed(0, 7), 4);
        x.person(0, 1, 0);
        // 5 is a child of 0 and 1, who own nothing
        t.due("20 near 1", x.deed(0, 5), 7);
        x.set(4, 0, 2);
        t.due("20 fewer before less", x.deed(0, 5), 36);
        x.sign(0, 3);
        t.due("20 by", x.deed(0, 2), 3);
        t.due("20 forged", x.deed(0, 3), 1);
        t.due("20 day", x.deed(0, 4), 0);
    }

    private static void p21At() {
        LetterHeirs x = new LetterHeirs();
        Checks.deed(x, "z. \n,a");
        Checks.deed(x, "b");
        int[] signs = {25, 26, 27, 0, NONE};
        for (int i = 0; i < 5; i++) t.due("21 at " + i, x.at(0, i), signs[i]);
        t.due("21 at -1", x.at(0, -1), NONE);
        t.due("21 deed 1", x.at(1, 0), 1);
        t.due("21 behind it", x.at(1, 1), NONE);
        t.due("21 no deed", x.at(2, 0), NONE);
        t.due("21 deed -1", x.at(-1, 0), NONE);
    }

    private static void p22Book() {
        LetterHeirs x = Checks.founders(2);
        x.days(3);
        x.own(9, 1);
        int[] line = {9, NONE, 1, 3, 0};
        for (int what = 0; what < 5; what++) t.due("22 book " + what, x.book(0, what), line[what]);
        t.due("22 what 5", x.book(0, 5), -2);
        t.due("22 what -1", x.book(0, -1), -2);
        t.due("22 line 1", x.book(1, 0), -2);
        t.due("22 line -1", x.book(-1, 0), -2);
        for (int i = 1; i < 199; i++) x.own(9, i % 2 == 0 ? 1 : 0);
        t.due("22 lines", x.look(5), 199);
        x.give(9, 0);
        t.due("22 200 lines", x.look(5), 200);
        t.due("22 its last", x.book(199, 4), 1);
        t.due("22 changes go on", x.give(9, 1), true);
        t.due("22 no line more", x.look(5), 200);
        t.due("22 but the owner", x.letter(9, 0), 1);
        x.undo();
        t.due("22 the book is full still", x.look(5), 200);
        x.undo();
        t.due("22 a line goes back", x.look(5), 199);
        t.due("22 its line is none", x.book(199, 0), -2);
    }

    private static void weddingsAre(String name, LetterHeirs x, int person, int deed, int... due) {
        for (int what = 0; what < 5; what++) t.due("23 " + name + " " + what, x.weddings(person, deed, what), due[what]);
    }

    private static void p23Weddings() {
        LetterHeirs x = Checks.founders(6);
        x.own(0, 1);
        x.own(1, 3);
        Checks.deed(x, "a");
        Checks.deed(x, "ab");
        Checks.deed(x, "z");
        weddingsAre("he can", x, 1, 0, 0, NONE, NONE, NONE, NONE);
        weddingsAre("one", x, 0, 0, 1, 0, 1, NONE, NONE);
        weddingsAre("one, turned", x, 3, 0, 1, 1, 3, NONE, NONE);
        weddingsAre("no way", x, 0, 2, NONE, NONE, NONE, NONE, NONE);
        weddingsAre("not with near 1", x, 0, 1, NONE, NONE, NONE, NONE, NONE);
        x.person(0, 2, 0);
        // 6 writes what 0 and 2 own
        weddingsAre("by his parents no", x, 6, 0, 1, 1, 6, NONE, NONE);
        x.set(4, 0, 2);
        // 6 is kin of 1 by the wedding of 0 and 1, and of 3 by that of 2 and 3
        weddingsAre("the first one", x, 6, 0, 1, 0, 1, NONE, NONE);
        weddingsAre("two", x, 6, 1, 2, 0, 1, 2, 3);
        // 3 is three steps from 0 by 6 and 2, two by 6 alone
        weddingsAre("two for a parent", x, 0, 1, 2, 0, 1, 3, 6);
        t.due("23 what 5", x.weddings(6, 1, 5), NONE);
        t.due("23 what -1", x.weddings(6, 1, -1), NONE);
        t.due("23 deed 3", x.weddings(6, 3, 0), NONE);
        t.due("23 deed -1", x.weddings(6, -1, 0), NONE);
        t.due("23 not there", x.weddings(7, 0, 0), NONE);
        t.due("23 none", x.weddings(NONE, 0, 0), NONE);
        t.due("23 nothing stays", x.of(0, 7), NONE);
        x.wed(0, 5);
        // 0 has a spouse now; 1 is near 6 by him himself
        weddingsAre("who has a spouse", x, 6, 0, 1, 1, 2, NONE, NONE);
        Checks.bury(x, 1);
        weddingsAre("who does not live", x, 1, 0, NONE, NONE, NONE, NONE, NONE);
        x.own(0, 3);
        weddingsAre("not by who does not live", x, 6, 1, 1, 2, 3, NONE, NONE);
        LetterHeirs y = Checks.founders(4);
        y.set(4, 0, 3);
        y.own(0, 3);
        Checks.deed(y, "a");
        y.person(0, 1, 0);
        // the second one behind the first: 0 weds 2, 3 can't be reached but by 1 or by 4
        weddingsAre("the lesser person first", y, 0, 0, 1, 0, 3, NONE, NONE);
        y.wed(0, 2);
        weddingsAre("by the other parent", y, 0, 0, 1, 1, 3, NONE, NONE);
        y.own(0, 2);
        y.own(1, 3);
        Checks.deed(y, "b");
        weddingsAre("by the child's", y, 4, 1, 1, 1, 3, NONE, NONE);
    }

    /** Twelve PEOPLE, of whom nobody is kin: every pair can wed. */
    private static void p23Order() {
        LetterHeirs x = Checks.founders(12);
        x.own(0, 10);
        x.own(1, 11);
        Checks.deed(x, "a");
        Checks.deed(x, "ab");
        weddingsAre("of twelve", x, 0, 0, 1, 0, 10, NONE, NONE);
        weddingsAre("none of twelve", x, 0, 1, NONE, NONE, NONE, NONE, NONE);
        x.image(true);
        x.lend(1, 0, 9, 0);
        weddingsAre("with a loan", x, 0, 1, 1, 0, 10, NONE, NONE);
        x.image(false);
        x.own(2, 9);
        x.set(4, 0, 3);
        x.wed(10, 11);
        Checks.deed(x, "abc");
        // 10 and 11 have each other; 9 may wed 0
        weddingsAre("no second way", x, 0, 2, NONE, NONE, NONE, NONE, NONE);
        x.image(false);
        LetterHeirs y = Checks.founders(10);
        y.person(4, 5, 0);
        y.person(6, 7, 0);
        y.own(0, 8);
        y.own(1, 9);
        Checks.deed(y, "ab");
        y.set(4, 0, 3);
        // 10 is near 8 by 4 or 5 or himself, near 9 by another of these
        weddingsAre("the first two", y, 10, 0, 2, 4, 8, 5, 9);
        y.wed(0, 4);
        // 4 has a spouse: 5 or 10 must wed; 0 can't again
        weddingsAre("without one of them", y, 10, 0, 2, 5, 8, 9, 10);
        weddingsAre("the lesser person of the second is above", y, 5, 0, 2, 5, 8, 9, 10);
        weddingsAre("of another house", y, 6, 0, 2, 6, 8, 7, 9);
        Checks.bury(y, 7);
        weddingsAre("of a smaller one", y, 6, 0, 2, 6, 8, 9, 11);
        weddingsAre("of the child", y, 11, 0, 2, 6, 8, 9, 11);
    }

    private static void p24WhenCan() {
        LetterHeirs x = Checks.founders(4);
        x.days(2);
        x.own(0, 0);
        x.own(1, 1);
        Checks.deed(x, "a");
        Checks.deed(x, "ab");
        t.due("24 today", x.whenCan(0, 0), 2);
        t.due("24 never", x.whenCan(1, 0), NONE);
        t.due("24 deed 2", x.whenCan(0, 2), NONE);
        t.due("24 deed -1", x.whenCan(0, -1), NONE);
        t.due("24 not there", x.whenCan(4, 0), NONE);
        t.due("24 none", x.whenCan(NONE, 0), NONE);
        x.lend(0, 2, 10, 0);
        t.due("24 when the loan ends", x.whenCan(0, 0), 13);
        Checks.will(x, 0, "rest to 1;");
        x.set(0, 0, 402);
        t.due("24 by a death", x.whenCan(1, 0), 402);
        t.due("24 all its letters", x.whenCan(1, 1), 402);
        x.set(0, 0, 403);
        t.due("24 401 days ahead", x.whenCan(1, 0), NONE);
        x.set(0, 1, 5);
        t.due("24 who dies before", x.whenCan(1, 0), NONE);
        x.set(0, 0, 9);
        Checks.law(x, "heir 1 when age>6 and day=9;");
        // 1 has died by then: of 2 and 3 the least one; the letter is lent till 12, to 2
        t.due("24 by the law of that day", x.whenCan(2, 0), 2);
        x.own(0, 0);
        t.due("24 without the loan", x.whenCan(2, 0), 9);
        t.due("24 of several the least", x.whenCan(3, 0), NONE);
        x.set(1, 0, 9999);
        t.due("24 no draws", x.whenCan(2, 0), 9);
        t.due("24 nothing stays", x.look(1), 15);
        t.due("24 state stays", x.look(6), 0);
        t.due("24 day stays", x.look(2), 2);
        Checks.bury(x, 3);
        t.due("24 does not live", x.whenCan(3, 0), NONE);
    }

    /** Twelve PEOPLE, all LETTERS and DEEDS and lines that there may be: the last of each counts, too. */
    private static void fullHouse() {
        LetterHeirs x = Checks.founders(12);
        for (int letter = 0; letter < 28; letter++) x.own(letter, 11 - letter % 12);
        for (int deed = 0; deed < 8; deed++) Checks.deed(x, deed < 7 ? "abcdefgh" : "lz");
        t.due("19 who can write the last one's", x.letter(0, 3), 2048);
        t.due("19 value", x.letter(11, 5), 1);
        t.due("19 value of one more", x.letter(25, 5), 1);
        t.due("20 signers", x.deed(0, 5), 4080);
        t.due("20 signers of the last", x.deed(7, 5), 1025);
        t.due("20 needed", x.deed(7, 7), 1025);
        t.due("20 alone", x.deed(7, 6), 0);
        t.due("25 hand", x.hand(1 | 1 << 12), 2048);
        t.due("28 silent", x.silent(11), 0);
        t.due("30 best", x.best(11, 0), 0);
        t.due("30 of the least one", x.best(0, 0), 10);
        t.due("30 how many", x.best(0, 1), 1);
        t.due("31 dumb", x.dumb(), 0);
        t.due("24 when", x.whenCan(11, 7), NONE);
        t.due("15 all sign", x.sign(0, 4095), 0);
        for (int i = 0; i < 12; i++) Checks.will(x, i, "rest to " + (i == 11 ? 0 : i + 1) + ";");
        for (int i = 0; i < 11; i++) x.set(0, i, 1);
        t.due("16 eleven die", x.days(1), 11);
        t.due("16 the last has all", x.of(11, 9), 268435455);
        // 28 told; then 2, 4 .. 16 by the first eight, 19, 22, 25
        t.due("22 lines", x.look(5), 166);
        t.due("31 he is not dumb", x.dumb(), 0);
        t.due("25 one hand", x.hand(268435455), 2048);
        t.due("30 nobody else", x.best(11, 0), NONE);
        t.due("28 all is lost with him", x.silent(11), 255);
    }

    /** Each asked first of all, when nothing else was thought of. */
    private static void askedFirst() {
        // 1 could write "a"; with b only who has a, too, could write "ab"
        t.due("19 value", oneOwner().letter(0, 5), 1);
        t.due("19 value of what nobody can", oneOwner().letter(1, 5), 1);
        t.due("20 signers", oneOwner().deed(0, 5), 1);
        t.due("20 alone", oneOwner().deed(0, 6), 1);
        t.due("20 needed", oneOwner().deed(0, 7), 1);
        t.due("25 hand", oneOwner().hand(1), 1);
        t.due("28 silent", oneOwner().silent(0), 1);
        t.due("30 best", oneOwner().best(0, 1), 1);
        t.due("31 dumb", oneOwner().dumb(), 2);
    }

    /** The letter a is that of 0; of three deeds all want it, two of them another one, too. */
    private static LetterHeirs oneOwner() {
        LetterHeirs x = Checks.founders(2);
        x.own(0, 0);
        Checks.deed(x, "a");
        Checks.deed(x, "ab");
        Checks.deed(x, "ac");
        return x;
    }

    /** A DEED that all twelve must sign. */
    private static void p20Twelve() {
        LetterHeirs x = Checks.founders(12);
        for (int letter = 0; letter < 12; letter++) x.own(letter, letter);
        Checks.deed(x, "abcdefghijkl");
        Checks.deed(x, "bcdefghijkl");
        t.due("20 all twelve", x.deed(0, 5), 4095);
        t.due("20 all are needed", x.deed(0, 7), 4095);
        t.due("20 eleven", x.deed(1, 5), 4094);
        t.due("20 eleven are needed", x.deed(1, 7), 4094);
        Checks.bury(x, 3);
        t.due("20 no longer", x.deed(0, 5), NONE);
        t.due("20 nobody is needed then", x.deed(0, 7), 0);
    }

    private static void p25Hand() {
        LetterHeirs x = Checks.founders(3);
        x.own(0, 0);
        x.own(27, 0);
        x.own(1, 1);
        x.wed(0, 2);
        t.due("25 one letter", x.hand(1), 5);
        t.due("25 two", x.hand(134217729), 5);
        t.due("25 of different ones", x.hand(3), 0);
        t.due("25 b", x.hand(2), 2);
        t.due("25 all", x.hand(268435455), 0);
        t.due("25 no letter", x.hand(0), NONE);
        t.due("25 above", x.hand(268435456), NONE);
        t.due("25 below", x.hand(-1), NONE);
        x.lend(1, 2, 5, 0);
        t.due("25 by a loan", x.hand(3), 4);
        Checks.bury(x, 2);
        t.due("25 who lives", x.hand(1), 1);
    }

    private static void p26Inherit() {
        LetterHeirs x = Checks.founders(5);
        x.own(0, 0);
        x.own(1, 0);
        x.own(2, 0);
        x.own(3, 1);
        t.due("26 nobody", x.inherit(0, 0, 0), NONE);
        t.due("26 not by a will", x.inherit(0, 0, 1), 0);
        t.due("26 not the owner", x.inherit(1, 0, 0), -2);
        t.due("26 nor by what 1", x.inherit(1, 0, 1), -2);
        t.due("26 letter 28", x.inherit(0, 28, 0), -2);
        t.due("26 letter -1", x.inherit(0, -1, 0), -2);
        t.due("26 not there", x.inherit(5, 0, 0), -2);
        t.due("26 none", x.inherit(NONE, 5, 0), -2);
        t.due("26 what 2", x.inherit(0, 0, 2), -2);
        t.due("26 what -1", x.inherit(0, 0, -1), -2);
        Checks.law(x, "heir 2-owns;");
        // a goes to 2 (owns none), so b to 3, c to 4
        t.due("26 by number: a", x.inherit(0, 0, 0), 2);
        t.due("26 by number: b", x.inherit(0, 1, 0), 3);
        t.due("26 by number: c", x.inherit(0, 2, 0), 4);
        t.due("26 nothing stays", x.of(0, 9), 7);
        Checks.will(x, 0, "leave \"b\" to 4 if 3;rest to 2 if 1;leave \"a\" to 1;leave \"b\" to 1;");
        t.due("26 will: b", x.inherit(0, 1, 0), 4);
        t.due("26 by a will", x.inherit(0, 1, 1), 1);
        t.due("26 the rest", x.inherit(0, 0, 0), 2);
        t.due("26 the rest too", x.inherit(0, 2, 0), 2);
        Checks.bury(x, 3);
        t.due("26 who is behind if does not live", x.inherit(0, 1, 0), 2);
        Checks.bury(x, 2);
        t.due("26 the heir does not live: a later line", x.inherit(0, 1, 0), 1);
        t.due("26 a later line for a", x.inherit(0, 0, 0), 1);
        t.due("26 no line for c: the law", x.inherit(0, 2, 0), 4);
        t.due("26 not by the will", x.inherit(0, 2, 1), 0);
        LetterHeirs y = Checks.founders(2);
        y.own(0, 0);
        y.days(3);
        y.person(NONE, NONE, 0);
        y.days(2);
        Checks.law(y, "heir 1 when age=2;");
        t.due("26 by his birthday", y.inherit(0, 0, 0), 2);
        y.own(0, 2);
        Checks.law(y, "heir 1;");
        t.due("26 of all the least", y.inherit(2, 0, 0), 0);
        Checks.law(x, "heir 0-owns;");
        t.due("26 worth not above 0", x.inherit(0, 2, 0), NONE);
        t.due("26 does not live", x.inherit(3, 2, 0), -2);
    }

    private static void p27Worth() {
        LetterHeirs x = Checks.founders(3);
        x.days(6);
        x.person(0, 1, 77);
        x.set(2, 3, 8);
        x.own(4, 0);
        x.own(5, 3);
        x.own(6, 3);
        x.days(3);
        String[] laws = {"letter", "vowel", "age", "kin", "child", "spouse", "owns", "skill", "coin", "day"};
        int[] due = {4, 1, 3, 1, 1, 0, 2, 8, 77, 9};
        int[] dueOfParent = {5, 0, 9, 1, 0, 0, 1, 0, 100, 9};
        for (int i = 0; i < laws.length; i++) {
            Checks.law(x, "heir " + laws[i] + ";");
            t.due("27 " + laws[i], x.worth(0, 3, 4), due[i]);
            t.due("27 of a parent: " + laws[i], x.worth(3, 0, 5), dueOfParent[i]);
        }
        Checks.law(x, "heir vowel;");
        String vowels = "aeiou";
        for (int letter = 0; letter < 28; letter++) {
            boolean is = letter < 26 && vowels.indexOf('a' + letter) >= 0;
            t.due("27 vowel " + letter, x.worth(0, 3, letter), is ? 1 : 0);
        }
        Checks.law(x, "heir spouse*10+child;");
        x.wed(0, 2);
        t.due("27 spouse", x.worth(0, 2, 4), 10);
        t.due("27 child of the father", x.worth(1, 3, 4), 1);
        Checks.law(x, "heir kin;");
        t.due("27 no way", x.worth(1, 2, 4), 3);
        x.part(0, 2);
        t.due("27 no way now", x.worth(1, 2, 4), 99);
        Checks.law(x, "heir 1 when skill>50; heir 0-9 when skill=8; heir 4 when skill=8;");
        t.due("27 the first line that is so", x.worth(0, 3, 4), -9);
        t.due("27 no line is so", x.worth(0, 1, 4), 0);
        Checks.law(x, "heir 9;");
        t.due("27 alike", x.worth(0, 0, 4), 0);
        t.due("27 heir not there", x.worth(0, 4, 4), 0);
        t.due("27 heir none", x.worth(0, NONE, 4), 0);
        t.due("27 not there", x.worth(9, 0, 4), 0);
        t.due("27 letter 28", x.worth(0, 1, 28), 0);
        t.due("27 letter -1", x.worth(0, 1, -1), 0);
        Checks.bury(x, 1);
        t.due("27 heir does not live", x.worth(0, 1, 4), 0);
        t.due("27 who leaves does not live", x.worth(1, 0, 4), 0);
        t.due("27 both live", x.worth(0, 3, 4), 9);
        Checks.law(x, "heir 9 - 19 / 2;");
        t.due("27 towards 0", x.worth(0, 3, 4), 0);
        Checks.law(x, "heir 0-kin*19/2;");
        t.due("27 towards 0, behind a minus", x.worth(0, 3, 4), -9);
        Checks.law(x, "heir 0 when kin-4=0-3 and (kin-4)=0;");
        t.due("27 the law before stays", x.worth(0, 3, 4), -9);
    }

    private static void p28Silent() {
        LetterHeirs x = Checks.founders(4);
        x.own(0, 0);
        x.own(1, 1);
        x.own(2, 0);
        Checks.deed(x, "a");
        Checks.deed(x, "b");
        Checks.deed(x, "ab");
        Checks.deed(x, "c");
        t.due("28 his deeds", x.silent(0), 9);
        t.due("28 the other's", x.silent(1), 2);
        t.due("28 nothing is lost", x.silent(2), 0);
        Checks.will(x, 0, "leave \"a\" to 3;");
        t.due("28 what is left goes on", x.silent(0), 8);
        t.due("28 nothing stays", x.look(1), 15);
        t.due("28 nor in the book", x.look(5), 3);
        x.wed(0, 1);
        // 0 and 1 can a, b, c, so ab; without 0 a goes to 3, c to nobody
        t.due("28 what he could alone", x.silent(0), 12);
        x.lend(1, 3, 5, 0);
        t.due("28 a loan ends with him", x.silent(3), 0);
        t.due("28 a loan stays", x.silent(1), 0);
        t.due("28 not there", x.silent(4), NONE);
        t.due("28 none", x.silent(NONE), NONE);
        Checks.bury(x, 2);
        t.due("28 does not live", x.silent(2), NONE);
    }

    private static void p29Trace() {
        LetterHeirs x = Checks.founders(3);
        x.own(3, 0);
        x.own(4, 0);
        x.give(3, 1);
        x.give(4, 2);
        x.own(3, NONE);
        t.due("29 first", x.trace(3, 0), 0);
        t.due("29 second", x.trace(3, 1), 2);
        t.due("29 third", x.trace(3, 2), 4);
        t.due("29 none such", x.trace(3, 3), NONE);
        t.due("29 below", x.trace(3, -1), NONE);
        t.due("29 another", x.trace(4, 1), 3);
        t.due("29 never changed", x.trace(5, 0), NONE);
        x.give(4, 0);
        t.due("29 once more", x.trace(4, 2), 5);
        t.due("19 changes", x.letter(4, 4), 3);
        x.undo();
        t.due("29 undone", x.trace(4, 2), NONE);
        t.due("19 changes undone", x.letter(4, 4), 2);
        t.due("29 letter 28", x.trace(28, 0), NONE);
        t.due("29 letter -1", x.trace(-1, 0), NONE);
    }

    private static void p30Best() {
        LetterHeirs x = Checks.founders(4);
        x.own(0, 0);
        x.own(1, 0);
        x.own(2, 2);
        Checks.deed(x, "a");
        Checks.deed(x, "ac");
        Checks.deed(x, "abc");
        t.due("30 who", x.best(0, 0), 2);
        t.due("30 how many", x.best(0, 1), 3);
        t.due("30 of the other", x.best(2, 0), 0);
        t.due("30 how many of his", x.best(2, 1), 3);
        t.due("30 one without letters", x.best(1, 0), 0);
        t.due("30 as it is", x.best(1, 1), 1);
        t.due("30 what 2", x.best(0, 2), NONE);
        t.due("30 what -1", x.best(0, -1), NONE);
        t.due("30 not there", x.best(4, 0), NONE);
        t.due("30 none", x.best(NONE, 0), NONE);
        t.due("30 nothing stays", x.of(0, 9), 3);
        x.lend(0, 3, 9, 0);
        // a is lent to 3: c must come to him
        t.due("30 loans as they are", x.best(2, 0), 3);
        t.due("30 with the loan", x.best(2, 1), 2);
        Checks.bury(x, 3);
        Checks.bury(x, 1);
        Checks.bury(x, 2);
        t.due("30 nobody else", x.best(0, 0), NONE);
        t.due("30 not even how many", x.best(0, 1), NONE);
        t.due("30 does not live", x.best(1, 0), NONE);
    }

    private static void p31Dumb() {
        LetterHeirs x = Checks.founders(4);
        t.due("31 all", x.dumb(), 15);
        x.own(0, 0);
        t.due("31 one can", x.dumb(), 14);
        x.wed(0, 1);
        t.due("31 his spouse", x.dumb(), 12);
        x.lend(0, 2, 4, 0);
        t.due("31 by a loan", x.dumb(), 11);
        Checks.bury(x, 3);
        t.due("31 who lives", x.dumb(), 3);
    }

    private static void p32Undo() {
        LetterHeirs x = Checks.founders(4);
        x.own(0, 0);
        x.own(1, 1);
        x.state(5);
        Checks.deed(x, "ab");
        Checks.will(x, 0, "rest to 3;");
        t.due("32 nothing", x.undo(), false);
        x.wed(0, 1);
        x.lend(0, 2, 3, 40);
        x.give(1, 3);
        x.sign(0, 1);
        x.sign(0, 2);
        x.duel(1, 3, 1);
        x.part(0, 1);
        t.due("32 seven", x.look(8), 7);
        t.due("32 part", x.undo(), true);
        t.due("32 wed again", x.of(1, 7), 0);
        t.due("32 duel", x.undo(), true);
        t.due("32 state", x.look(6), 5);
        t.due("32 owner", x.letter(1, 0), 3);
        t.due("32 lines", x.look(5), 3);
        t.due("32 sign", x.undo(), true);
        t.due("32 signed before", x.deed(0, 2), 1);
        t.due("32 sign before", x.undo(), true);
        t.due("32 not signed", x.deed(0, 2), 0);
        t.due("32 no day", x.deed(0, 4), NONE);
        t.due("32 give", x.undo(), true);
        t.due("32 given back", x.letter(1, 0), 1);
        t.due("32 no line of it", x.look(5), 2);
        t.due("32 lend", x.undo(), true);
        t.due("32 coins", x.of(2, 6), 100);
        t.due("32 the owner's", x.of(0, 6), 100);
        t.due("32 no loan", x.letter(0, 1), NONE);
        t.due("32 wed", x.undo(), true);
        t.due("32 not wed", x.of(0, 7), NONE);
        t.due("32 no kin", x.kin(0, 1), 99);
        t.due("32 no more", x.undo(), false);
        x.set(0, 0, 1);
        x.set(1, 2, 9999);
        x.days(1);
        t.due("32 two died", x.look(1), 10);
        Checks.law(x, "heir 3;");
        t.due("32 the day", x.undo(), true);
        t.due("32 all live", x.look(1), 15);
        t.due("32 no day drawn", x.of(2, 3), NONE);
        t.due("32 told days stay", x.of(0, 3), 1);
        t.due("32 day 0", x.look(2), 0);
        t.due("32 state of before", x.look(6), 5);
        t.due("32 his letters", x.of(0, 9), 1);
        t.due("32 texts stay", x.look(7), 1);
        x.set(1, 2, 0);
        x.set(0, 0, NONE);
        x.days(10);
        for (int i = 0; i < 8; i++) t.due("32 eight", x.undo(), true);
        t.due("32 not nine", x.undo(), false);
        t.due("32 day 2", x.look(2), 2);
        x.days(1);
        x.undo();
        x.days(2);
        t.due("32 kept anew", x.look(8), 2);
        x.set(9, 0, 0);
        t.due("32 a refused one forgets nothing", x.look(8), 2);
        x.set(4, 0, 1);
        t.due("32 one that is told forgets", x.undo(), false);
    }

    private static void p33Image() {
        LetterHeirs x = Checks.founders(3);
        t.due("33 none", x.image(false), false);
        x.own(0, 0);
        Checks.law(x, "heir 2;");
        Checks.will(x, 0, "rest to 1;");
        Checks.deed(x, "ab");
        x.wed(0, 1);
        x.days(2);
        x.set(4, 0, 2);
        x.state(9);
        x.sign(0, 4);
        t.due("33 taken", x.image(true), true);
        t.due("33 forgets nothing", x.look(8), 1);
        x.person(NONE, NONE, 1);
        x.own(0, 3);
        x.own(1, 3);
        Checks.law(x, "heir 1;heir 2;");
        Checks.will(x, 0, "");
        Checks.will(x, 3, "rest to 0;");
        Checks.deed(x, "c");
        x.sign(1, 1);
        x.part(0, 1);
        x.set(4, 0, 0);
        x.set(3, 1, 7);
        x.state(1);
        x.set(0, 2, 3);
        x.days(5);
        Checks.law(x, "heir ?");
        Checks.tape(x, "abc");
        for (int i = 0; i < 2; i++) {
            t.due("33 back", x.image(false), true);
            int[] due = {3, 7, 2, 2, 1, 1, 9, 1, 0, 268435454, 0};
            for (int what = 0; what < due.length; what++) t.due("33 look " + what, x.look(what), due[what]);
            t.due("33 nothing to undo", x.undo(), false);
            t.due("33 owner", x.letter(0, 0), 0);
            t.due("33 wed", x.of(0, 7), 1);
            t.due("33 coin", x.of(1, 6), 100);
            t.due("33 dies", x.of(2, 3), NONE);
            t.due("33 will", x.of(0, 11), 1);
            t.due("33 heir", x.inherit(0, 0, 0), 1);
            t.due("33 law", x.worth(0, 1, 0), 2);
            t.due("33 signed", x.deed(0, 2), 4);
            t.due("33 no deed more", x.deed(1, 0), -2);
            t.due("33 no line more", x.book(1, 0), -2);
            t.due("33 the fault stays", x.fault(1), 5);
            t.due("33 the tape stays", x.end(3), true);
            Checks.tape(x, "");
            t.due("33 a new one has no will", x.person(NONE, NONE, 3), 3);
            t.due("33 no line", x.of(3, 11), 0);
            Checks.deed(x, "d");
            t.due("33 a new deed is not signed", x.deed(1, 2), 0);
            x.own(0, 1);
            x.days(1);
            Checks.law(x, "heir ?");
            Checks.tape(x, "abc");
        }
        t.due("33 taken anew", x.image(true), true);
        x.days(1);
        t.due("33 back to it", x.image(false), true);
        t.due("33 the later one", x.look(2), 3);
    }

    /** What is told anew after the taking is as it was, row by row. */
    private static void p33All() {
        LetterHeirs x = Checks.founders(4);
        x.own(0, 0);
        x.own(1, 0);
        x.own(2, 1);
        x.set(1, 0, 8);
        x.set(2, 0, 9);
        Checks.deed(x, "abc");
        Checks.law(x, "heir 1 when letter=1; heir skill+owns*2;");
        Checks.will(x, 0, "leave \"a\" to 2 if 1;");
        x.sign(0, 1);
        x.give(1, 2);
        x.image(true);
        x.undo();
        x.give(1, 3);
        t.due("33 a line since", x.book(3, 2), 3);
        x.sign(0, 15);
        x.set(1, 0, 0);
        x.set(2, 0, 99);
        x.set(0, 3, 5);
        Checks.law(x, "heir 4 - 3 * 2 + 5 when day < 9 and owns > 7; heir 6; heir 7;");
        Checks.will(x, 0, "leave \"b\" to 1 if 2;rest to 3;");
        x.lend(2, 3, 4, 10);
        x.image(false);
        t.due("33 the line as it was", x.book(3, 2), 2);
        t.due("33 lines", x.look(5), 4);
        t.due("33 owner of b", x.letter(1, 0), 2);
        t.due("33 owner of a", x.letter(0, 0), 0);
        t.due("33 frail", x.of(0, 4), 8);
        t.due("33 skill", x.of(0, 5), 9);
        t.due("33 dies", x.of(3, 3), NONE);
        t.due("33 coin", x.of(3, 6), 100);
        t.due("33 loan", x.letter(2, 1), NONE);
        t.due("33 forged", x.deed(0, 3), 4);
        t.due("33 sign", x.at(0, 2), 2);
        t.due("33 law, first line", x.worth(1, 0, 1), 1);
        t.due("33 law, second line", x.worth(1, 0, 2), 11);
        t.due("33 will", x.inherit(0, 0, 0), 2);
        t.due("33 by the will", x.inherit(0, 0, 1), 1);
        Checks.bury(x, 1);
        t.due("33 with who is behind if", x.inherit(0, 0, 1), 0);
        t.due("33 a new one", x.person(0, 2, 1), 4);
        x.set(1, 4, 9999);
        x.set(2, 4, 99);
        x.image(false);
        x.days(1);
        t.due("33 another new one", x.person(NONE, NONE, 2), 4);
        t.due("33 is not frail", x.of(4, 4), 0);
        t.due("33 has no skill", x.of(4, 5), 0);
        t.due("33 is born that day", x.of(4, 2), 1);
        t.due("33 is nobody's child", x.kin(4, 0), 99);
    }

    private static void p34Look() {
        LetterHeirs x = Checks.founders(4);
        x.own(0, 0);
        x.own(27, 1);
        Checks.law(x, "heir 1;");
        Checks.deed(x, "a");
        x.set(4, 0, 3);
        x.set(0, 3, 1);
        x.state(-7);
        x.lend(0, 1, 5, 0);
        x.lend(27, 2, 5, 0);
        x.days(1);
        int[] due = {4, 7, 1, 3, 1, 2, -7, 1, 3, 134217726, 2};
        for (int what = 0; what < due.length; what++) t.due("34 look " + what, x.look(what), due[what]);
        t.due("34 what 11", x.look(11), -2);
        t.due("34 what -1", x.look(-1), -2);
    }
}
