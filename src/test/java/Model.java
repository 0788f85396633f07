import java.util.ArrayList;
import java.util.Comparator;
import java.util.List;
import java.util.TreeSet;
import java.util.regex.Matcher;
import java.util.regex.Pattern;

/** The document once more, in the slowest and plainest form, to hold LetterHeirs against. */
final class Model {
    private static final int NONE = -1;
    private static final String ALPHABET = "abcdefghijklmnopqrstuvwxyz.,";

    private static final class Person {
        int mother;
        int father;
        int born;
        int dies = NONE;
        int frail;
        int skill;
        int coin;
        int spouse = NONE;
        boolean dead;

        Person copy() {
            Person p = new Person();
            p.mother = mother;
            p.father = father;
            p.born = born;
            p.dies = dies;
            p.frail = frail;
            p.skill = skill;
            p.coin = coin;
            p.spouse = spouse;
            p.dead = dead;
            return p;
        }
    }

    private record Bequest(String row, int to, int other) { }

    private record Signing(int by, int forged, int day) { }

    private record Loan(int to, int last) { }

    private record Change(int letter, int from, int to, int day, int how) { }

    /** An expression or a condition of THE LAW (a condition counts 1 or 0). */
    private record Term(String op, int number, Term left, Term right) { }

    private record LawLine(Term worth, Term when) { }

    private static final class Fault extends Exception {
        private static final long serialVersionUID = 1;
        final int kind;
        final int place;

        Fault(int kind, int place) {
            this.kind = kind;
            this.place = place;
        }
    }

    private static final class World {
        int state;
        int day;
        int near = 1;
        List<Person> people = new ArrayList<>();
        int[] owner = new int[28];
        Loan[] loan = new Loan[28];
        List<Change> book = new ArrayList<>();
        Signing[] signed = new Signing[8];
        List<LawLine> law = new ArrayList<>();
        List<List<Bequest>> wills = new ArrayList<>();
        List<String> deeds = new ArrayList<>();

        World copy() {
            World w = new World();
            w.state = state;
            w.day = day;
            w.near = near;
            for (Person p : people) w.people.add(p.copy());
            w.owner = owner.clone();
            w.loan = loan.clone();
            w.book = new ArrayList<>(book);
            w.signed = signed.clone();
            w.law = new ArrayList<>(law);
            w.wills = new ArrayList<>(wills);
            w.deeds = new ArrayList<>(deeds);
            return w;
        }

        boolean there(int p) {
            return p >= 0 && p < people.size();
        }

        boolean lives(int p) {
            return there(p) && !people.get(p).dead;
        }

        int kin(int a, int b) {
            int n = people.size();
            int[][] d = new int[n][n];
            for (int i = 0; i < n; i++) {
                for (int j = 0; j < n; j++) d[i][j] = i == j ? 0 : 99;
            }
            for (int i = 0; i < n; i++) {
                Person p = people.get(i);
                for (int q : new int[] {p.mother, p.father, p.spouse}) {
                    if (q == NONE) continue;
                    d[i][q] = 1;
                    d[q][i] = 1;
                }
            }
            for (int k = 0; k < n; k++) {
                for (int i = 0; i < n; i++) {
                    for (int j = 0; j < n; j++) d[i][j] = Math.min(d[i][j], d[i][k] + d[k][j]);
                }
            }
            return d[a][b];
        }

        boolean can(int p, int letter) {
            if (!lives(p)) return false;
            if (loan[letter] != null) return loan[letter].to == p;
            return owner[letter] != NONE && lives(owner[letter]) && kin(p, owner[letter]) <= near;
        }

        int canSet(int p) {
            int set = 0;
            for (int l = 0; l < 28; l++) if (can(p, l)) set |= 1 << l;
            return set;
        }

        boolean canDeed(int p, int deed) {
            if (!lives(p)) return false;
            for (char sign : deeds.get(deed).toCharArray()) {
                if (!can(p, ALPHABET.indexOf(sign))) return false;
            }
            return true;
        }

        boolean someoneAlone(int deed) {
            for (int p = 0; p < people.size(); p++) if (canDeed(p, deed)) return true;
            return false;
        }

        int deedSet(int deed) {
            int set = 0;
            for (char sign : deeds.get(deed).toCharArray()) set |= 1 << ALPHABET.indexOf(sign);
            return set;
        }

        void change(int letter, int to, int how) {
            if (owner[letter] != to && book.size() < 200) book.add(new Change(letter, owner[letter], to, day, how));
            owner[letter] = to;
        }

        int draw(int m) {
            state = state * 1664525 + 1013904223;
            return (int) ((state & 0xffffffffL) / 256 % m);
        }

        int owns(int p) {
            int set = 0;
            for (int l = 0; l < 28; l++) if (owner[l] == p) set |= 1 << l;
            return set;
        }

        int value(Term term, int leaver, int heir, int letter) {
            Person h = people.get(heir);
            switch (term.op) {
                case "number": return term.number;
                case "letter": return letter;
                case "vowel": return letter < 26 && "aeiou".indexOf(ALPHABET.charAt(letter)) >= 0 ? 1 : 0;
                case "age": return day - h.born;
                case "kin": return kin(leaver, heir);
                case "child": return h.mother == leaver || h.father == leaver ? 1 : 0;
                case "spouse": return people.get(leaver).spouse == heir ? 1 : 0;
                case "owns": return Integer.bitCount(owns(heir));
                case "skill": return h.skill;
                case "coin": return h.coin;
                case "day": return day;
                case "not": return value(term.left, leaver, heir, letter) == 0 ? 1 : 0;
                default:
            }
            int a = value(term.left, leaver, heir, letter);
            int b = value(term.right, leaver, heir, letter);
            switch (term.op) {
                case "+": return a + b;
                case "-": return a - b;
                case "*": return a * b;
                case "/": return a / b;
                case "<": return a < b ? 1 : 0;
                case "=": return a == b ? 1 : 0;
                case ">": return a > b ? 1 : 0;
                case "and": return a != 0 && b != 0 ? 1 : 0;
                case "or": return a != 0 || b != 0 ? 1 : 0;
                default: throw new IllegalStateException(term.op);
            }
        }

        int worth(int leaver, int heir, int letter) {
            for (LawLine line : law) {
                if (line.when == null || value(line.when, leaver, heir, letter) != 0) {
                    return value(line.worth, leaver, heir, letter);
                }
            }
            return 0;
        }

        int willHeir(int p, int letter) {
            for (Bequest b : wills.get(p)) {
                boolean names = b.row == null || b.row.indexOf(ALPHABET.charAt(letter)) >= 0;
                if (names && lives(b.to) && (b.other == NONE || lives(b.other))) return b.to;
            }
            return NONE;
        }

        int lawHeir(int leaver, int letter) {
            int heir = NONE;
            for (int p = people.size() - 1; p >= 0; p--) {
                if (!lives(p) || worth(leaver, p, letter) <= 0) continue;
                if (heir == NONE || worth(leaver, p, letter) >= worth(leaver, heir, letter)) heir = p;
            }
            return heir;
        }

        void die(int p) {
            people.get(p).dead = true;
            for (int l = 0; l < 28; l++) {
                if (owner[l] != p) continue;
                int heir = willHeir(p, l);
                if (heir != NONE) change(l, heir, 3);
                else change(l, lawHeir(p, l), 4);
            }
            for (int l = 0; l < 28; l++) if (loan[l] != null && loan[l].to == p) loan[l] = null;
            for (int q = 0; q < people.size(); q++) {
                if (people.get(p).spouse == q) people.get(q).spouse = NONE;
            }
        }

        int dayEnds(boolean draws) {
            day++;
            for (int l = 0; l < 28; l++) if (loan[l] != null && loan[l].last < day) loan[l] = null;
            int died = 0;
            for (int p = 0; p < people.size(); p++) {
                Person who = people.get(p);
                if (who.dead) continue;
                if (who.dies == day) {
                    die(p);
                    died++;
                } else if (draws && who.frail > 0 && draw(10000) < who.frail) {
                    who.dies = day;
                    die(p);
                    died++;
                }
            }
            return died;
        }

        boolean mayWed(int a, int b) {
            if (a == b || !lives(a) || !lives(b)) return false;
            Person p = people.get(a);
            Person q = people.get(b);
            if (p.spouse != NONE || q.spouse != NONE) return false;
            if (p.mother == b || p.father == b || q.mother == a || q.father == a) return false;
            for (int x : new int[] {p.mother, p.father}) {
                for (int y : new int[] {q.mother, q.father}) if (x != NONE && x == y) return false;
            }
            return true;
        }

        World after(int a, int b) {
            World w = copy();
            w.people.get(a).spouse = b;
            w.people.get(b).spouse = a;
            return w;
        }
    }

    private World w = new World();
    private World taken = null;
    private final List<World> undos = new ArrayList<>();
    private String tape = "";
    private int faultKind = 0;
    private int faultPlace = NONE;

    int state(int v) {
        int was = w.state;
        w.state = v;
        undos.clear();
        return was;
    }

    int person(int mother, int father, int coin) {
        if (w.people.size() == 12 || coin < 0 || coin > 99999) return NONE;
        if (mother != NONE && !w.there(mother) || father != NONE && !w.there(father)) return NONE;
        if (mother == father && mother != NONE) return NONE;
        Person p = new Person();
        p.mother = mother;
        p.father = father;
        p.coin = coin;
        p.born = w.day;
        w.people.add(p);
        w.wills.add(List.of());
        undos.clear();
        return w.people.size() - 1;
    }

    private static boolean in(int v, int least, int most) {
        return v >= least && v <= most;
    }

    boolean set(int what, int person, int v) {
        if (what == 4) {
            if (!in(v, 0, 3)) return false;
            w.near = v;
        } else {
            if (!w.lives(person)) return false;
            Person p = w.people.get(person);
            if (what == 0 && (v == NONE || in(v, w.day + 1, 9999))) p.dies = v;
            else if (what == 1 && in(v, 0, 9999)) p.frail = v;
            else if (what == 2 && in(v, 0, 99)) p.skill = v;
            else if (what == 3 && in(v, 0, 99999)) p.coin = v;
            else return false;
        }
        undos.clear();
        return true;
    }

    boolean own(int letter, int person) {
        if (!in(letter, 0, 27) || person != NONE && !w.lives(person)) return false;
        w.loan[letter] = null;
        w.change(letter, person, 0);
        undos.clear();
        return true;
    }

    int feed(int a, int b, int c, int d, int e) {
        if (tape.length() > 380) return NONE;
        for (int number : new int[] {a, b, c, d, e}) {
            tape += (char) (number >>> 24);
            tape += (char) (number >>> 16 & 255);
            tape += (char) (number >>> 8 & 255);
            tape += (char) (number & 255);
        }
        return tape.length();
    }

    boolean end(int n) {
        if (!in(n, 0, tape.length())) return false;
        tape = tape.substring(0, n);
        return true;
    }

    int text(int which, int person) {
        String text = tape;
        tape = "";
        faultKind = 0;
        faultPlace = NONE;
        try {
            if (which == 0) {
                w.law = new Parser(text, true).law();
                return w.law.size();
            }
            if (which == 1 && w.lives(person)) {
                w.wills.set(person, new Parser(text, false).will(person, w.people.size()));
                return w.wills.get(person).size();
            }
            if (which == 2 && w.deeds.size() < 8) {
                w.deeds.add(deedText(text));
                return w.deeds.size() - 1;
            }
        } catch (Fault fault) {
            faultKind = fault.kind;
            faultPlace = fault.place;
        }
        return NONE;
    }

    int fault(int what) {
        return what == 0 ? faultKind : what == 1 ? faultPlace : NONE;
    }

    private static String deedText(String text) throws Fault {
        String signs = "";
        for (int i = 0; i < text.length(); i++) {
            char c = text.charAt(i);
            if (c == ' ' || c == '\n') continue;
            if (ALPHABET.indexOf(c) < 0) throw new Fault(1, i);
            if (signs.length() == 40) throw new Fault(3, i);
            signs += c;
        }
        if (signs.isEmpty()) throw new Fault(4, text.length());
        return signs;
    }

    private void keep() {
        undos.add(w.copy());
        if (undos.size() > 8) undos.remove(0);
    }

    boolean wed(int a, int b) {
        if (!w.mayWed(a, b)) return false;
        keep();
        w = w.after(a, b);
        return true;
    }

    boolean part(int a, int b) {
        if (!w.there(a) || !w.there(b)) return false;
        if (w.people.get(a).spouse != b || w.people.get(b).spouse != a) return false;
        keep();
        w.people.get(a).spouse = NONE;
        w.people.get(b).spouse = NONE;
        return true;
    }

    boolean lend(int letter, int to, int n, int coins) {
        if (!in(letter, 0, 27) || !w.lives(w.owner[letter]) || w.loan[letter] != null) return false;
        if (!w.lives(to) || to == w.owner[letter] || !in(n, 1, 99)) return false;
        Person from = w.people.get(w.owner[letter]);
        if (coins < 0 || coins > w.people.get(to).coin || from.coin + coins > 99999) return false;
        keep();
        from.coin += coins;
        w.people.get(to).coin -= coins;
        w.loan[letter] = new Loan(to, w.day + n);
        return true;
    }

    boolean give(int letter, int to) {
        if (!in(letter, 0, 27) || !w.lives(w.owner[letter]) || w.loan[letter] != null) return false;
        if (!w.lives(to) || to == w.owner[letter]) return false;
        keep();
        w.change(letter, to, 1);
        return true;
    }

    int duel(int a, int b, int letter) {
        if (!in(letter, 0, 27) || a == b || !w.lives(a) || !w.lives(b)) return NONE;
        if (w.owner[letter] != a && w.owner[letter] != b) return NONE;
        keep();
        int first = w.people.get(a).skill;
        int winner = w.draw(first + w.people.get(b).skill + 2) <= first ? a : b;
        w.loan[letter] = null;
        w.change(letter, winner, 2);
        return winner;
    }

    int sign(int deed, int people) {
        if (!in(deed, 0, w.deeds.size() - 1) || people <= 0) return NONE;
        for (int p = 0; p < 31; p++) if ((people >> p & 1) == 1 && !w.lives(p)) return NONE;
        keep();
        int forged = 0;
        for (char c : w.deeds.get(deed).toCharArray()) {
            int letter = ALPHABET.indexOf(c);
            boolean one = false;
            for (int p = 0; p < 12; p++) if ((people >> p & 1) == 1 && w.can(p, letter)) one = true;
            if (!one) forged |= 1 << letter;
        }
        w.signed[deed] = new Signing(people, forged, w.day);
        return forged;
    }

    int days(int n) {
        if (!in(n, 1, 100) || w.day + n > 9999) return NONE;
        int died = 0;
        for (int i = 0; i < n; i++) {
            keep();
            died += w.dayEnds(true);
        }
        return died;
    }

    int of(int person, int what) {
        if (!w.there(person) || !in(what, 0, 11)) return -2;
        Person p = w.people.get(person);
        return new int[] {p.mother, p.father, p.born, p.dies, p.frail, p.skill, p.coin, p.spouse, p.dead ? 0 : 1,
            w.owns(person), w.canSet(person), w.wills.get(person).size()}[what];
    }

    int kin(int a, int b) {
        return w.there(a) && w.there(b) ? w.kin(a, b) : NONE;
    }

    int letter(int letter, int what) {
        if (!in(letter, 0, 27) || !in(what, 0, 5)) return -2;
        if (what == 0) return w.owner[letter];
        if (what == 1) return w.loan[letter] == null ? NONE : w.loan[letter].to;
        if (what == 2) return w.loan[letter] == null ? NONE : w.loan[letter].last;
        if (what == 3) return hand(1 << letter);
        int count = 0;
        if (what == 4) {
            for (Change c : w.book) if (c.letter == letter) count++;
            return count;
        }
        for (int p = 0; p < w.people.size(); p++) {
            for (int d = 0; d < w.deeds.size(); d++) {
                boolean would = w.lives(p) && (w.deedSet(d) & ~w.canSet(p) & ~(1 << letter)) == 0;
                if (would && !w.canDeed(p, d)) count++;
            }
        }
        return count;
    }

    int deed(int deed, int what) {
        if (!in(deed, 0, w.deeds.size() - 1) || !in(what, 0, 7)) return -2;
        Signing s = w.signed[deed];
        if (what == 0) return w.deedSet(deed);
        if (what == 1) return w.deeds.get(deed).length();
        if (what == 2) return s == null ? 0 : s.by;
        if (what == 3) return s == null ? 0 : s.forged;
        if (what == 4) return s == null ? NONE : s.day;
        if (what == 6) return hand(w.deedSet(deed));
        return what == 5 ? signers(w.deedSet(deed)) : needed(w.deedSet(deed));
    }

    private int together(int people) {
        int set = 0;
        for (int p = 0; p < w.people.size(); p++) if ((people >> p & 1) == 1) set |= w.canSet(p);
        return set;
    }

    private int signers(int letters) {
        TreeSet<Integer> sets = new TreeSet<>(Comparator.comparingInt((Integer s) -> Integer.bitCount(s)).thenComparing(s -> s));
        int[] can = new int[12];
        for (int p = 0; p < w.people.size(); p++) can[p] = w.canSet(p);
        for (int set = 1; set < 4096; set++) {
            int all = 0;
            boolean live = true;
            for (int p = 0; p < 12; p++) {
                if ((set >> p & 1) == 0) continue;
                live = live && w.lives(p);
                all |= can[p];
            }
            if (live && (letters & ~all) == 0) sets.add(set);
        }
        return sets.isEmpty() ? NONE : sets.first();
    }

    private int needed(int letters) {
        int set = 0;
        boolean could = (letters & ~together(4095)) == 0;
        for (int p = 0; p < w.people.size(); p++) {
            if (could && w.lives(p) && (letters & ~together(4095 & ~(1 << p))) != 0) set |= 1 << p;
        }
        return set;
    }

    int at(int deed, int i) {
        if (!in(deed, 0, w.deeds.size() - 1) || !in(i, 0, w.deeds.get(deed).length() - 1)) return NONE;
        return ALPHABET.indexOf(w.deeds.get(deed).charAt(i));
    }

    int book(int i, int what) {
        if (!in(i, 0, w.book.size() - 1) || !in(what, 0, 4)) return -2;
        Change c = w.book.get(i);
        return new int[] {c.letter, c.from, c.to, c.day, c.how}[what];
    }

    int weddings(int person, int deed, int what) {
        if (!w.lives(person) || !in(deed, 0, w.deeds.size() - 1) || !in(what, 0, 4)) return NONE;
        if (w.canDeed(person, deed)) return what == 0 ? 0 : NONE;
        int n = w.people.size();
        for (int first = 0; first < n * n; first++) {
            int a = first / n;
            int b = first % n;
            if (a < b && w.mayWed(a, b) && w.after(a, b).canDeed(person, deed)) {
                return new int[] {1, a, b, NONE, NONE}[what];
            }
        }
        for (int first = 0; first < n * n; first++) {
            int a = first / n;
            int b = first % n;
            if (a >= b || !w.mayWed(a, b)) continue;
            World then = w.after(a, b);
            for (int second = 0; second < n * n; second++) {
                int c = second / n;
                int d = second % n;
                if (c >= d || c <= a || !then.mayWed(c, d)) continue;
                if (then.after(c, d).canDeed(person, deed)) return new int[] {2, a, b, c, d}[what];
            }
        }
        return NONE;
    }

    int whenCan(int person, int deed) {
        if (!w.lives(person) || !in(deed, 0, w.deeds.size() - 1)) return NONE;
        World then = w.copy();
        for (int i = 0; i <= 400; i++) {
            if (then.canDeed(person, deed)) return then.day;
            then.dayEnds(false);
        }
        return NONE;
    }

    int hand(int letters) {
        if (!in(letters, 1, (1 << 28) - 1)) return NONE;
        int set = 0;
        for (int p = 0; p < w.people.size(); p++) if ((letters & ~w.canSet(p)) == 0) set |= 1 << p;
        return set;
    }

    private World without(int person) {
        World then = w.copy();
        then.die(person);
        return then;
    }

    int inherit(int person, int letter, int what) {
        if (!w.lives(person) || !in(letter, 0, 27) || w.owner[letter] != person || !in(what, 0, 1)) return -2;
        World then = without(person);
        if (what == 0) return then.owner[letter];
        return then.willHeir(person, letter) != NONE ? 1 : 0;
    }

    int worth(int person, int heir, int letter) {
        if (!w.lives(person) || !w.lives(heir) || person == heir || !in(letter, 0, 27)) return 0;
        return w.worth(person, heir, letter);
    }

    int silent(int person) {
        if (!w.lives(person)) return NONE;
        World then = without(person);
        int set = 0;
        for (int d = 0; d < w.deeds.size(); d++) if (w.someoneAlone(d) && !then.someoneAlone(d)) set |= 1 << d;
        return set;
    }

    int trace(int letter, int i) {
        List<Integer> lines = new ArrayList<>();
        for (int line = 0; line < w.book.size(); line++) if (w.book.get(line).letter == letter) lines.add(line);
        return in(i, 0, lines.size() - 1) ? lines.get(i) : NONE;
    }

    int best(int person, int what) {
        if (!w.lives(person) || !in(what, 0, 1)) return NONE;
        int best = NONE;
        int most = NONE;
        for (int heir = 0; heir < w.people.size(); heir++) {
            if (heir == person || !w.lives(heir)) continue;
            World then = w.copy();
            for (int l = 0; l < 28; l++) if (then.owner[l] == person) then.owner[l] = heir;
            int count = 0;
            for (int d = 0; d < w.deeds.size(); d++) if (then.someoneAlone(d)) count++;
            if (count > most) {
                best = heir;
                most = count;
            }
        }
        return what == 0 ? best : most;
    }

    int dumb() {
        int set = 0;
        for (int p = 0; p < w.people.size(); p++) if (w.lives(p) && w.canSet(p) == 0) set |= 1 << p;
        return set;
    }

    /** Texts that were told since stay as they are. */
    boolean undo() {
        if (undos.isEmpty()) return false;
        World before = undos.remove(undos.size() - 1);
        before.law = w.law;
        before.wills = w.wills;
        before.deeds = w.deeds;
        w = before;
        return true;
    }

    boolean image(boolean taking) {
        if (taking) {
            taken = w.copy();
            return true;
        }
        if (taken == null) return false;
        w = taken.copy();
        undos.clear();
        return true;
    }

    int look(int what) {
        int living = 0;
        for (int p = 0; p < w.people.size(); p++) if (w.lives(p)) living |= 1 << p;
        int loans = 0;
        for (Loan loan : w.loan) if (loan != null) loans++;
        int[] all = {w.people.size(), living, w.day, w.near, w.deeds.size(), w.book.size(), w.state, w.law.size(),
            undos.size(), w.owns(NONE), loans};
        return in(what, 0, 10) ? all[what] : -2;
    }

    Model() {
        for (int l = 0; l < 28; l++) w.owner[l] = NONE;
    }

    /** The grammar as it stands, a method a rule. */
    private static final class Parser {
        private static final String LAW_WORDS = " heir when or and not letter vowel age kin child spouse owns skill coin day ";
        private static final String WILL_WORDS = " leave to if rest ";
        private static final Pattern TOKEN = Pattern.compile("[A-Za-z]+|[0-9]+|\"[^\"]*\"?|(?s:.)");
        private final List<String> tokens = new ArrayList<>();
        private final List<Integer> places = new ArrayList<>();
        private final int length;
        private int now = 0;

        Parser(String text, boolean law) {
            length = text.length();
            Matcher m = (law ? Pattern.compile("[A-Za-z]+|[0-9]+|(?s:.)") : TOKEN).matcher(text);
            for (int from = 0; m.find(from); from = m.end()) {
                String token = m.group();
                if (token.equals(" ") || token.equals("\n")) continue;
                boolean word = token.matches("[A-Za-z]+");
                boolean known = !word || (law ? LAW_WORDS : WILL_WORDS).contains(" " + token + " ");
                boolean number = token.charAt(0) >= '0' && token.charAt(0) <= '9';
                tokens.add(known && !(number && token.length() > 4) ? token : "?");
                places.add(m.start());
            }
            tokens.add("");
            places.add(length);
        }

        private String look() {
            return tokens.get(now);
        }

        private Fault fault(int kind) {
            return new Fault(kind, places.get(now));
        }

        private boolean take(String token) {
            if (!look().equals(token)) return false;
            now++;
            return true;
        }

        private void must(String token) throws Fault {
            if (!take(token)) throw fault(1);
        }

        private boolean number() {
            return look().matches("[0-9]+");
        }

        List<LawLine> law() throws Fault {
            List<LawLine> lines = new ArrayList<>();
            while (!look().isEmpty()) {
                if (!look().equals("heir")) throw fault(1);
                if (lines.size() == 16) throw fault(3);
                now++;
                Term worth = e();
                Term when = take("when") ? b(0) : null;
                must(";");
                lines.add(new LawLine(worth, when));
            }
            return lines;
        }

        private Term b(int open) throws Fault {
            Term left = a(open);
            while (take("or")) left = new Term("or", 0, left, a(open));
            return left;
        }

        private Term a(int open) throws Fault {
            Term left = c(open);
            while (take("and")) left = new Term("and", 0, left, c(open));
            return left;
        }

        private Term c(int open) throws Fault {
            if ((look().equals("not") || look().equals("(")) && open == 8) throw fault(3);
            if (take("not")) return new Term("not", 0, c(open + 1), null);
            if (take("(")) {
                Term inner = b(open + 1);
                must(")");
                return inner;
            }
            Term left = e();
            String op = look();
            if (!op.matches("[<=>]")) throw fault(1);
            now++;
            return new Term(op, 0, left, e());
        }

        private Term e() throws Fault {
            Term left = t();
            while (look().matches("[-+]")) {
                String op = look();
                now++;
                left = new Term(op, 0, left, t());
            }
            return left;
        }

        private Term t() throws Fault {
            Term left = u();
            while (look().matches("[*/]")) {
                String op = look();
                now++;
                if (op.equals("/") && !number()) throw fault(1);
                if (op.equals("/") && Integer.parseInt(look()) == 0) throw fault(2);
                left = new Term(op, 0, left, u());
            }
            return left;
        }

        private Term u() throws Fault {
            String token = look();
            if (number()) {
                now++;
                return new Term("number", Integer.parseInt(token), null, null);
            }
            if (!token.matches("letter|vowel|age|kin|child|spouse|owns|skill|coin|day")) throw fault(1);
            now++;
            return new Term(token, 0, null, null);
        }

        List<Bequest> will(int person, int people) throws Fault {
            List<Bequest> lines = new ArrayList<>();
            while (!look().isEmpty()) {
                if (!look().matches("leave|rest")) throw fault(1);
                if (lines.size() == 12) throw fault(3);
                String row = null;
                if (take("leave")) row = row();
                else now++;
                must("to");
                int to = n(person, people);
                int other = take("if") ? n(person, people) : NONE;
                must(";");
                lines.add(new Bequest(row, to, other));
            }
            return lines;
        }

        private int n(int person, int people) throws Fault {
            if (!number()) throw fault(1);
            int n = Integer.parseInt(look());
            if (n >= people || n == person) throw fault(2);
            now++;
            return n;
        }

        private String row() throws Fault {
            String token = look();
            if (!token.startsWith("\"")) throw fault(1);
            String row = token.substring(1);
            boolean ends = row.endsWith("\"");
            if (ends) row = row.substring(0, row.length() - 1);
            for (int i = 0; i < row.length(); i++) {
                if (ALPHABET.indexOf(row.charAt(i)) < 0) throw new Fault(1, places.get(now) + 1 + i);
            }
            if (!ends) throw new Fault(1, length);
            if (row.isEmpty() || row.length() > 28) throw fault(2);
            now++;
            return row;
        }
    }
}
