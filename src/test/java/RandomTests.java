/** Long runs of calls, the same ones each time; each answer is held against that of the Model. */
public final class RandomTests {
    private static final int RUNS = 1500;
    private static final int CALLS = 500;
    private static final String ALPHABET = "abcdefghijklmnopqrstuvwxyz.,";
    private static final String SPOILERS = " \n;+-*/()<=>\"0123456789abkn.,!AMXZ@[`{";
    private static final Checks t = new Checks();

    private LetterHeirs x = new LetterHeirs();
    private Model m = new Model();
    private long seed;
    private int run;
    private int calls = 0;
    // How many letters and people a run mostly speaks of: few, so that calls meet.
    private int letters;
    private int people;

    public static void main(String[] args) {
        for (int run = 0; run < RUNS; run++) new RandomTests(run).go();
        t.close("RandomTests");
    }

    private RandomTests(int run) {
        this.run = run;
        seed = run * 7919L + 1;
        letters = 1 + below(run % 5 == 0 ? 28 : 5);
        people = 2 + below(11);
    }

    private int below(int n) {
        seed = seed * 6364136223846793005L + 1442695040888963407L;
        return (int) ((seed >>> 33) % n);
    }

    private void due(String call, int got, int want) {
        calls++;
        t.due("run " + run + ", call " + calls + ": " + call, got, want);
    }

    private void due(String call, boolean got, boolean want) {
        due(call, got ? 1 : 0, want ? 1 : 0);
    }

    private void go() {
        int first = below(3) == 0 ? 1 + below(people) : people;
        for (int i = 0; m.look(0) < first && i < 60; i++) newPerson();
        for (int l = 0; l < letters; l++) if (below(6) > 0) own(l, person());
        if (below(2) == 0) due("image(true)", x.image(true), m.image(true));
        while (calls < CALLS) {
            switch (below(12)) {
                case 0 -> tell();
                case 1 -> texts();
                case 2, 3, 4 -> act();
                case 5 -> back();
                case 6, 7 -> ask();
                default -> think();
            }
        }
    }

    /** A number that often can't be: just outside, or far. */
    private int wild(int n) {
        int[] far = {Integer.MIN_VALUE, Integer.MIN_VALUE + 1, Integer.MAX_VALUE, Integer.MAX_VALUE - 1, 1 << 28, 1 << 12, 100000, 10000};
        return below(3) == 0 ? far[below(far.length)] : below(n) - 2;
    }

    /** Mostly the one that is likely. */
    private int orWild(int likely) {
        return below(60) == 0 ? wild(102) : likely;
    }

    /** Mostly one who LIVES. */
    private int person() {
        if (below(40) == 0) return wild(15);
        int one = below(Math.max(1, m.look(0)));
        for (int i = 0; i < 3 && (m.look(1) >> one & 1) == 0; i++) one = below(Math.max(1, m.look(0)));
        return one;
    }

    /** Mostly one who owns a letter. */
    private int owner() {
        int one = m.letter(Math.floorMod(letter(), 28), 0);
        return one < 0 || below(6) == 0 ? person() : one;
    }

    private int letter() {
        return below(40) == 0 ? wild(31) : below(letters);
    }

    private int deed() {
        return below(30) == 0 ? wild(11) : below(Math.max(1, m.look(4)));
    }

    private void newPerson() {
        int a = m.look(0) == 0 || below(3) > 0 ? -1 : person();
        int b = m.look(0) == 0 || below(3) > 0 ? -1 : person();
        int coin = orWild(below(20) == 0 ? 99990 + below(15) : below(200));
        due("person(" + a + ", " + b + ", " + coin + ")", x.person(a, b, coin), m.person(a, b, coin));
    }

    private void own(int letter, int person) {
        due("own(" + letter + ", " + person + ")", x.own(letter, person), m.own(letter, person));
    }

    private void tell() {
        int p = person();
        switch (below(6)) {
            case 0 -> {
                int v = below(1 << 30);
                due("state(" + v + ")", x.state(v), m.state(v));
            }
            case 1 -> newPerson();
            case 2, 3 -> {
                int what = below(8) == 0 ? below(8) - 1 : below(4);
                int frail = below(3) == 0 ? below(10001) : below(300);
                int coin = below(2) == 0 ? below(200) : below(3) * 49999;
                int[] likely = {m.look(2) + below(60), frail, below(101), coin, below(5), 0, 0, 0};
                int v = likely[what < 0 ? 5 : what];
                if (below(10) == 0) v = wild(5);
                due("set(" + what + ", " + p + ", " + v + ")", x.set(what, p, v), m.set(what, p, v));
            }
            case 4 -> {
                int v = orWild(below(4));
                if (below(2) == 0) due("set(4, 0, " + v + ")", x.set(4, 0, v), m.set(4, 0, v));
            }
            default -> own(letter(), below(6) == 0 ? -1 : p);
        }
    }

    private void texts() {
        int which = orWild(below(25) == 0 ? below(5) - 1 : below(3));
        String text = which == 0 ? lawText() : which == 1 ? willText() : deedText();
        if (below(3) == 0) text = spoilt(text);
        if (text.length() > 400) text = text.substring(0, 400);
        for (int at = 0; at < text.length(); at += 20) {
            int[] n = new int[5];
            for (int i = 0; i < 20; i++) {
                int sign = at + i < text.length() ? text.charAt(at + i) : below(256);
                n[i / 4] = n[i / 4] << 8 | sign;
            }
            due("feed", x.feed(n[0], n[1], n[2], n[3], n[4]), m.feed(n[0], n[1], n[2], n[3], n[4]));
        }
        int end = below(60) == 0 ? text.length() + below(40) - 20 : orWild(text.length());
        due("end(" + end + ")", x.end(end), m.end(end));
        int p = person();
        due("text(" + which + ", " + p + ") of '" + text + "'", x.text(which, p), m.text(which, p));
        due("fault(0)", x.fault(0), m.fault(0));
        due("fault(1)", x.fault(1), m.fault(1));
    }

    private String blank() {
        return below(8) == 0 ? "\n" : below(12) == 0 ? "  " : " ";
    }

    private String gap() {
        return below(3) == 0 ? blank() : "";
    }

    private String pick(String... of) {
        return of[below(of.length)];
    }

    private String value(int size) {
        StringBuilder s = new StringBuilder(unit());
        for (int i = below(size); i > 0; i--) {
            String op = pick("+", "-", "*", "/");
            s.append(gap()).append(op).append(gap());
            s.append(op.equals("/") ? String.valueOf(below(12) == 0 ? 0 : 1 + below(9)) : unit());
        }
        return s.toString();
    }

    private String unit() {
        if (below(3) == 0) return String.valueOf(below(6) == 0 ? below(12000) : below(20));
        return pick("letter", "vowel", "age", "kin", "child", "spouse", "owns", "skill", "coin", "day");
    }

    private String condition(int depth) {
        StringBuilder s = new StringBuilder();
        for (int i = 1 + (below(3) == 0 ? below(5) : 0); i > 0; i--) {
            if (s.length() > 0) s.append(blank()).append(pick("or", "and")).append(blank());
            int kind = depth > 9 ? 0 : below(5);
            if (kind == 1) s.append("not").append(blank()).append(claim(depth + 1));
            else s.append(claim(depth));
        }
        return s.toString();
    }

    private String claim(int depth) {
        if (depth < 10 && below(4) == 0) return "(" + gap() + condition(depth + 1) + gap() + ")";
        if (depth < 10 && below(6) == 0) return "not " + claim(depth + 1);
        return value(2) + gap() + pick("<", "=", ">") + gap() + value(2);
    }

    private String lawText() {
        StringBuilder s = new StringBuilder();
        if (below(6) == 0) return deepText();
        boolean many = below(10) == 0;
        for (int i = many ? 14 + below(4) : below(5); i > 0; i--) {
            s.append("heir").append(blank()).append(many ? unit() : value(4));
            if (!many && below(2) == 0) s.append(blank()).append("when").append(blank()).append(condition(0));
            s.append(gap()).append(';').append(gap());
        }
        return s.toString();
    }

    /** As many "(" and "not" as may be open, or one more. */
    private String deepText() {
        StringBuilder s = new StringBuilder("heir 1 when ");
        int shut = 0;
        for (int i = 7 + below(3); i > 0; i--) {
            if (below(2) == 0) {
                s.append("not ");
            } else {
                s.append('(').append(gap());
                shut++;
            }
        }
        s.append(value(2)).append(pick("<", "=", ">")).append(value(1));
        for (int i = 0; i < shut; i++) {
            if (below(3) == 0) s.append(" and ").append(pick("", "", "not ", "(")).append("owns<2");
            s.append(')');
        }
        return s.append(";").toString();
    }

    private String row() {
        StringBuilder s = new StringBuilder();
        int n = below(12) == 0 ? 26 + below(5) : below(20) == 0 ? 0 : 1 + below(4);
        for (int i = 0; i < n; i++) s.append(ALPHABET.charAt(below(6) == 0 ? below(28) : below(letters)));
        return s.toString();
    }

    private String willText() {
        StringBuilder s = new StringBuilder();
        for (int i = below(10) == 0 ? 11 + below(3) : below(5); i > 0; i--) {
            if (below(3) == 0) s.append("rest").append(blank());
            else s.append("leave").append(gap()).append('"').append(row()).append('"').append(gap());
            s.append("to").append(gap()).append(Math.max(0, person()));
            if (below(3) == 0) s.append(gap()).append("if").append(gap()).append(Math.max(0, person()));
            s.append(gap()).append(';').append(gap());
        }
        return s.toString();
    }

    private String deedText() {
        StringBuilder s = new StringBuilder(gap());
        int n = below(15) == 0 ? 38 + below(5) : below(15) == 0 ? 0 : 1 + below(4);
        for (int i = 0; i < n; i++) s.append(ALPHABET.charAt(below(20) == 0 ? below(28) : below(letters))).append(gap());
        return s.toString();
    }

    /** One byte of it is lost, another, or comes. */
    private String spoilt(String text) {
        int at = below(text.length() + 1);
        char sign = below(3) == 0 ? (char) below(256) : SPOILERS.charAt(below(SPOILERS.length()));
        String head = text.substring(0, at);
        String tail = text.substring(at);
        switch (below(4)) {
            case 0: return head + sign + tail;
            case 1: return tail.isEmpty() ? head : head + tail.substring(1);
            case 2: return tail.isEmpty() ? head + sign : head + sign + tail.substring(1);
            default: return head;
        }
    }

    private void act() {
        int a = person();
        int b = person();
        int l = letter();
        switch (below(8)) {
            case 0 -> due("wed(" + a + ", " + b + ")", x.wed(a, b), m.wed(a, b));
            case 1 -> {
                int c = below(2) == 0 ? m.of(a, 7) : b;
                due("part(" + a + ", " + c + ")", x.part(a, c), m.part(a, c));
            }
            case 2 -> {
                int n = orWild(below(8) == 0 ? below(102) : 1 + below(9));
                int coins = orWild(below(2) == 0 ? 0 : below(110) - 2);
                due("lend(" + l + ", " + b + ", " + n + ", " + coins + ")", x.lend(l, b, n, coins), m.lend(l, b, n, coins));
            }
            case 3 -> due("give(" + l + ", " + b + ")", x.give(l, b), m.give(l, b));
            case 4 -> {
                int c = below(2) == 0 ? m.letter(l, 0) : a;
                due("duel(" + c + ", " + b + ", " + l + ")", x.duel(c, b, l), m.duel(c, b, l));
            }
            case 5, 6 -> {
                int d = deed();
                int set = orWild(below(20) == 0 ? below(1 << 14) - 4 : m.look(1) & below(4096));
                due("sign(" + d + ", " + set + ")", x.sign(d, set), m.sign(d, set));
            }
            default -> {
                int n = orWild(below(30) == 0 ? below(103) - 1 : 1 + below(3));
                due("days(" + n + ")", x.days(n), m.days(n));
            }
        }
    }

    private void back() {
        int what = below(8);
        if (what == 0) due("image(true)", x.image(true), m.image(true));
        else if (what == 1) due("image(false)", x.image(false), m.image(false));
        else due("undo()", x.undo(), m.undo());
    }

    private void ask() {
        int p = person();
        int q = person();
        int l = letter();
        int what = orWild(below(14) - 1);
        switch (below(8)) {
            case 0 -> due("of(" + p + ", " + what + ")", x.of(p, what), m.of(p, what));
            case 1 -> due("kin(" + p + ", " + q + ")", x.kin(p, q), m.kin(p, q));
            case 2 -> due("letter(" + l + ", " + what % 8 + ")", x.letter(l, what % 8), m.letter(l, what % 8));
            case 3 -> {
                int d = deed();
                due("deed(" + d + ", " + what % 10 + ")", x.deed(d, what % 10), m.deed(d, what % 10));
            }
            case 4 -> {
                int i = orWild(below(3) == 0 ? below(202) - 1 : below(Math.max(1, m.look(5))));
                due("book(" + i + ", " + what % 7 + ")", x.book(i, what % 7), m.book(i, what % 7));
            }
            case 5 -> due("trace(" + l + ", " + what % 5 + ")", x.trace(l, what % 5), m.trace(l, what % 5));
            case 6 -> {
                int d = deed();
                due("at(" + d + ", " + what + ")", x.at(d, what), m.at(d, what));
            }
            default -> due("look(" + what + ")", x.look(what), m.look(what));
        }
    }

    private void think() {
        int p = person();
        int q = person();
        int l = letter();
        int d = deed();
        int what = orWild(below(6) - (below(10) == 0 ? 1 : 0));
        switch (below(9)) {
            case 0 -> {
                for (int i = what; i < 5 && i > -3; i++) due("weddings(" + p + ", " + d + ", " + i + ")", x.weddings(p, d, i), m.weddings(p, d, i));
            }
            case 1 -> due("whenCan(" + p + ", " + d + ")", x.whenCan(p, d), m.whenCan(p, d));
            case 2 -> {
                int set = orWild(below(10) == 0 ? below(1 << 30) - 5 : 1 << below(letters) | 1 << below(letters));
                due("hand(" + set + ")", x.hand(set), m.hand(set));
            }
            case 3, 4 -> {
                int owner = below(8) == 0 ? p : m.letter(l, 0);
                due("inherit(" + owner + ", " + l + ", " + what % 3 + ")", x.inherit(owner, l, what % 3), m.inherit(owner, l, what % 3));
            }
            case 5 -> due("worth(" + p + ", " + q + ", " + l + ")", x.worth(p, q, l), m.worth(p, q, l));
            case 6 -> {
                int o = owner();
                due("silent(" + o + ")", x.silent(o), m.silent(o));
            }
            case 7 -> {
                int o = owner();
                due("best(" + o + ", " + what % 3 + ")", x.best(o, what % 3), m.best(o, what % 3));
            }
            default -> due("dumb()", x.dumb(), m.dumb());
        }
    }
}
