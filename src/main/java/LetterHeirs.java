/**
 * A clan whose letters are left by will; nobody may write one that he and his nearest kin have not.
 * Every row is made in the constructor and used again, so that no call makes an object.
 */
public final class LetterHeirs {
    public static final int NONE = -1;

    private static final int NO_ANSWER = NONE - 1;
    private static final int PEOPLE = 12;
    private static final int LETTERS = 28;
    private static final int ALL_LETTERS = (1 << LETTERS) - 1;
    private static final int DEEDS = 8;
    private static final int SIGNS = 40;
    private static final int LAST_DAY = 9999;
    private static final int MOST_FRAIL = 9999;
    private static final int MOST_SKILL = 99;
    private static final int MOST_COIN = 99999;
    private static final int MOST_NEAR = 3;
    private static final int FAR = 99;
    private static final int TAPE_BYTES = 400;
    private static final int DAYS_AHEAD = 400;
    private static final int BY_TELLING = 0;
    private static final int BY_GIFT = 1;
    private static final int BY_DUEL = 2;
    private static final int BY_WILL = 3;
    private static final int BY_LAW = 4;

    private final Clan clan = new Clan();
    private final Texts texts = new Texts();
    private final Book ledger = new Book();
    private final History history = new History();
    private final Thoughts thoughts = new Thoughts(clan, texts);
    private final Tape tape = new Tape();
    private final LawReader lawReader = new LawReader(tape);
    private final WillReader willReader = new WillReader(tape);
    private final Clan imageClan = new Clan();
    private final Texts imageTexts = new Texts();
    private final Book imageLedger = new Book();
    private boolean imageTaken = false;

    public LetterHeirs() {
    }

    // ---- what is told

    public int state(int v) {
        int before = clan.draws;
        clan.draws = v;
        history.forget();
        return before;
    }

    public int person(int mother, int father, int coin) {
        if (clan.people >= PEOPLE || coin < 0 || coin > MOST_COIN) return NONE;
        if (mother != NONE && !clan.isThere(mother)) return NONE;
        if (father != NONE && !clan.isThere(father)) return NONE;
        if (mother != NONE && mother == father) return NONE;
        history.forget();
        return clan.addPerson(mother, father, coin);
    }

    public boolean set(int what, int person, int v) {
        if (what == 4) {
            if (v < 0 || v > MOST_NEAR) return false;
            clan.near = v;
        } else if (!clan.lives(person) || !setOfPerson(what, person, v)) {
            return false;
        }
        history.forget();
        return true;
    }

    private boolean setOfPerson(int what, int person, int v) {
        switch (what) {
            case 0:
                if (v != NONE && (v <= clan.today || v > LAST_DAY)) return false;
                clan.dies[person] = v;
                return true;
            case 1:
                if (v < 0 || v > MOST_FRAIL) return false;
                clan.frail[person] = v;
                return true;
            case 2:
                if (v < 0 || v > MOST_SKILL) return false;
                clan.skill[person] = v;
                return true;
            case 3:
                if (v < 0 || v > MOST_COIN) return false;
                clan.coin[person] = v;
                return true;
            default:
                return false;
        }
    }

    public boolean own(int letter, int person) {
        if (!isLetter(letter)) return false;
        if (person != NONE && !clan.lives(person)) return false;
        history.forget();
        clan.endLoan(letter);
        clan.pass(letter, person, BY_TELLING, ledger);
        return true;
    }

    // ---- texts

    public int feed(int a, int b, int c, int d, int e) {
        if (tape.length + 20 > TAPE_BYTES) return NONE;
        tape.add(a);
        tape.add(b);
        tape.add(c);
        tape.add(d);
        tape.add(e);
        return tape.length;
    }

    public boolean end(int n) {
        if (n < 0 || n > tape.length) return false;
        tape.length = n;
        return true;
    }

    public int text(int which, int person) {
        tape.faultless();
        int answer = NONE;
        if (which == 0) {
            answer = lawReader.read(texts.law);
        } else if (which == 1 && clan.lives(person)) {
            answer = willReader.read(person, clan.people, texts);
        } else if (which == 2 && texts.deeds < DEEDS) {
            answer = texts.addDeed(tape);
        }
        tape.length = 0;
        return answer;
    }

    public int fault(int what) {
        if (what == 0) return tape.fault;
        if (what == 1) return tape.faultPlace;
        return NONE;
    }

    // ---- acts

    public boolean wed(int a, int b) {
        if (!clan.mayWed(a, b)) return false;
        history.keep(clan, ledger);
        clan.join(a, b);
        return true;
    }

    public boolean part(int a, int b) {
        if (!clan.isThere(a) || !clan.isThere(b)) return false;
        if (clan.spouse[a] != b || clan.spouse[b] != a) return false;
        history.keep(clan, ledger);
        clan.separate(a, b);
        return true;
    }

    public boolean lend(int letter, int to, int n, int coins) {
        if (!mayHandOver(letter, to) || n < 1 || n > 99) return false;
        int owner = clan.owner[letter];
        if (coins < 0 || coins > clan.coin[to] || coins > MOST_COIN - clan.coin[owner]) return false;
        history.keep(clan, ledger);
        clan.coin[to] -= coins;
        clan.coin[owner] += coins;
        clan.loanTo[letter] = to;
        clan.loanLast[letter] = clan.today + n;
        return true;
    }

    public boolean give(int letter, int to) {
        if (!mayHandOver(letter, to)) return false;
        history.keep(clan, ledger);
        clan.pass(letter, to, BY_GIFT, ledger);
        return true;
    }

    private boolean mayHandOver(int letter, int to) {
        if (!isLetter(letter) || !clan.lives(to)) return false;
        int owner = clan.owner[letter];
        return owner != to && clan.lives(owner) && clan.loanTo[letter] == NONE;
    }

    public int duel(int a, int b, int letter) {
        if (!isLetter(letter) || a == b || !clan.lives(a) || !clan.lives(b)) return NONE;
        if (clan.owner[letter] != a && clan.owner[letter] != b) return NONE;
        history.keep(clan, ledger);
        int drawn = clan.draw(clan.skill[a] + clan.skill[b] + 2);
        int winner = drawn < clan.skill[a] + 1 ? a : b;
        clan.endLoan(letter);
        clan.pass(letter, winner, BY_DUEL, ledger);
        return winner;
    }

    public int sign(int deed, int people) {
        if (!isDeed(deed) || people == 0 || (people & ~clan.living) != 0) return NONE;
        history.keep(clan, ledger);
        clan.signedBy[deed] = people;
        clan.forged[deed] = texts.deedLetters[deed] & ~thoughts.writableTogether(people);
        clan.signDay[deed] = clan.today;
        return clan.forged[deed];
    }

    public int days(int n) {
        if (n < 1 || n > 100 || clan.today + n > LAST_DAY) return NONE;
        int died = 0;
        for (int i = 0; i < n; i++) {
            history.keep(clan, ledger);
            died += clan.endDay(texts, ledger, true);
        }
        return died;
    }

    // ---- what is so

    public int of(int person, int what) {
        if (!clan.isThere(person)) return NO_ANSWER;
        switch (what) {
            case 0: return clan.mother[person];
            case 1: return clan.father[person];
            case 2: return clan.born[person];
            case 3: return clan.dies[person];
            case 4: return clan.frail[person];
            case 5: return clan.skill[person];
            case 6: return clan.coin[person];
            case 7: return clan.spouse[person];
            case 8: return clan.lives(person) ? 1 : 0;
            case 9: return clan.ownedBy(person);
            case 10: return clan.writableBy(person);
            case 11: return texts.willLines[person];
            default: return NO_ANSWER;
        }
    }

    public int kin(int a, int b) {
        if (!clan.isThere(a) || !clan.isThere(b)) return NONE;
        return clan.stepsBetween(a, b);
    }

    public int letter(int letter, int what) {
        if (!isLetter(letter)) return NO_ANSWER;
        switch (what) {
            case 0: return clan.owner[letter];
            case 1: return clan.loanTo[letter];
            case 2: return clan.loanLast[letter];
            case 3: return thoughts.writers(1 << letter);
            case 4: return ledger.changesOf(letter);
            case 5: return thoughts.valueOf(letter);
            default: return NO_ANSWER;
        }
    }

    public int deed(int deed, int what) {
        if (!isDeed(deed)) return NO_ANSWER;
        int letters = texts.deedLetters[deed];
        switch (what) {
            case 0: return letters;
            case 1: return texts.deedLength[deed];
            case 2: return clan.signedBy[deed];
            case 3: return clan.forged[deed];
            case 4: return clan.signDay[deed];
            case 5: return thoughts.signers(letters);
            case 6: return thoughts.writers(letters);
            case 7: return thoughts.needed(letters);
            default: return NO_ANSWER;
        }
    }

    public int at(int deed, int i) {
        if (!isDeed(deed) || i < 0 || i >= texts.deedLength[deed]) return NONE;
        return texts.deedSigns[deed * SIGNS + i];
    }

    public int book(int i, int what) {
        if (i < 0 || i >= ledger.lines || what < 0 || what >= Book.WIDTH) return NO_ANSWER;
        return ledger.rows[i * Book.WIDTH + what];
    }

    public int trace(int letter, int i) {
        if (!isLetter(letter) || i < 0) return NONE;
        return ledger.changeOf(letter, i);
    }

    public int look(int what) {
        switch (what) {
            case 0: return clan.people;
            case 1: return clan.living;
            case 2: return clan.today;
            case 3: return clan.near;
            case 4: return texts.deeds;
            case 5: return ledger.lines;
            case 6: return clan.draws;
            case 7: return texts.law.lines;
            case 8: return history.count;
            case 9: return clan.ownedBy(NONE);
            case 10: return clan.loans();
            default: return NO_ANSWER;
        }
    }

    // ---- in thought

    public int weddings(int person, int deed, int what) {
        if (!clan.lives(person) || !isDeed(deed) || what < 0 || what > 4) return NONE;
        return thoughts.fewestWeddings(person, texts.deedLetters[deed], what);
    }

    public int whenCan(int person, int deed) {
        if (!clan.lives(person) || !isDeed(deed)) return NONE;
        return thoughts.firstDay(person, texts.deedLetters[deed]);
    }

    public int hand(int letters) {
        if (letters < 1 || letters > ALL_LETTERS) return NONE;
        return thoughts.writers(letters);
    }

    public int inherit(int person, int letter, int what) {
        if (!isLetter(letter) || !clan.lives(person) || clan.owner[letter] != person) return NO_ANSWER;
        if (what == 0) return thoughts.heirOf(person, letter);
        if (what == 1) return texts.heirByWill(person, letter, clan.living) == NONE ? 0 : 1;
        return NO_ANSWER;
    }

    public int worth(int person, int heir, int letter) {
        if (!isLetter(letter) || person == heir || !clan.lives(person) || !clan.lives(heir)) return 0;
        return texts.law.worthOf(clan, person, heir, letter);
    }

    public int silent(int person) {
        if (!clan.lives(person)) return NONE;
        return thoughts.silencedBy(person);
    }

    public int best(int person, int what) {
        if (!clan.lives(person) || what < 0 || what > 1) return NONE;
        return thoughts.bestHeir(person, what);
    }

    public int dumb() {
        return thoughts.speechless();
    }

    // ---- back

    public boolean undo() {
        return history.goBack(clan, ledger);
    }

    public boolean image(boolean taken) {
        if (taken) {
            imageClan.become(clan);
            imageTexts.become(texts);
            imageLedger.become(ledger);
            imageTaken = true;
            return true;
        }
        if (!imageTaken) return false;
        clan.become(imageClan);
        texts.become(imageTexts);
        ledger.become(imageLedger);
        history.forget();
        return true;
    }

    private boolean isDeed(int deed) {
        return deed >= 0 && deed < texts.deeds;
    }

    private static boolean isLetter(int letter) {
        return letter >= 0 && letter < LETTERS;
    }

    /** Which LETTER a byte is, or NONE. */
    private static int letterOf(int sign) {
        if (sign >= 'a' && sign <= 'z') return sign - 'a';
        if (sign == '.') return 26;
        if (sign == ',') return 27;
        return NONE;
    }

    private static boolean isBlank(int sign) {
        return sign == 32 || sign == 10;
    }

    /** PEOPLE, LETTERS and SIGNINGS: all that an act or a day can change, and what is told of people. */
    private static final class Clan {
        int draws = 0;
        int today = 0;
        int near = 1;
        int people = 0;
        int living = 0;
        final int[] mother = new int[PEOPLE];
        final int[] father = new int[PEOPLE];
        final int[] born = new int[PEOPLE];
        final int[] dies = new int[PEOPLE];
        final int[] frail = new int[PEOPLE];
        final int[] skill = new int[PEOPLE];
        final int[] coin = new int[PEOPLE];
        final int[] spouse = new int[PEOPLE];
        // The set of those one step away. A death leaves it as it is, for who dies keeps his SPOUSE.
        final int[] links = new int[PEOPLE];
        final int[] owner = new int[LETTERS];
        final int[] loanTo = new int[LETTERS];
        final int[] loanLast = new int[LETTERS];
        final int[] signedBy = new int[DEEDS];
        final int[] forged = new int[DEEDS];
        final int[] signDay = new int[DEEDS];

        Clan() {
            for (int letter = 0; letter < LETTERS; letter++) {
                owner[letter] = NONE;
                loanTo[letter] = NONE;
                loanLast[letter] = NONE;
            }
            for (int deed = 0; deed < DEEDS; deed++) signDay[deed] = NONE;
        }

        void become(Clan other) {
            draws = other.draws;
            today = other.today;
            near = other.near;
            people = other.people;
            living = other.living;
            System.arraycopy(other.mother, 0, mother, 0, PEOPLE);
            System.arraycopy(other.father, 0, father, 0, PEOPLE);
            System.arraycopy(other.born, 0, born, 0, PEOPLE);
            System.arraycopy(other.dies, 0, dies, 0, PEOPLE);
            System.arraycopy(other.frail, 0, frail, 0, PEOPLE);
            System.arraycopy(other.skill, 0, skill, 0, PEOPLE);
            System.arraycopy(other.coin, 0, coin, 0, PEOPLE);
            System.arraycopy(other.spouse, 0, spouse, 0, PEOPLE);
            System.arraycopy(other.links, 0, links, 0, PEOPLE);
            System.arraycopy(other.owner, 0, owner, 0, LETTERS);
            System.arraycopy(other.loanTo, 0, loanTo, 0, LETTERS);
            System.arraycopy(other.loanLast, 0, loanLast, 0, LETTERS);
            System.arraycopy(other.signedBy, 0, signedBy, 0, DEEDS);
            System.arraycopy(other.forged, 0, forged, 0, DEEDS);
            System.arraycopy(other.signDay, 0, signDay, 0, DEEDS);
        }

        boolean isThere(int person) {
            return person >= 0 && person < people;
        }

        boolean lives(int person) {
            return isThere(person) && (living >> person & 1) == 1;
        }

        int addPerson(int itsMother, int itsFather, int itsCoin) {
            int person = people;
            people++;
            living |= 1 << person;
            mother[person] = itsMother;
            father[person] = itsFather;
            born[person] = today;
            dies[person] = NONE;
            frail[person] = 0;
            skill[person] = 0;
            coin[person] = itsCoin;
            spouse[person] = NONE;
            links[person] = 0;
            if (itsMother != NONE) link(person, itsMother);
            if (itsFather != NONE) link(person, itsFather);
            return person;
        }

        void link(int a, int b) {
            links[a] |= 1 << b;
            links[b] |= 1 << a;
        }

        /** For two who may wed or have wed: nothing but their wedding links them. */
        void unlink(int a, int b) {
            links[a] &= ~(1 << b);
            links[b] &= ~(1 << a);
        }

        boolean mayWed(int a, int b) {
            if (a == b || !lives(a) || !lives(b)) return false;
            if (spouse[a] != NONE || spouse[b] != NONE) return false;
            return !isParent(a, b) && !isParent(b, a) && !isParent(mother[a], b) && !isParent(father[a], b);
        }

        boolean isParent(int parent, int child) {
            return parent != NONE && (mother[child] == parent || father[child] == parent);
        }

        void join(int a, int b) {
            spouse[a] = b;
            spouse[b] = a;
            link(a, b);
        }

        void separate(int a, int b) {
            spouse[a] = NONE;
            spouse[b] = NONE;
            unlink(a, b);
        }

        /** All who are a given number of steps away at most. */
        int within(int person, int steps) {
            int reached = 1 << person;
            for (int step = 0; step < steps; step++) {
                int wider = reached;
                for (int p = 0; p < people; p++) {
                    if ((reached >> p & 1) == 1) wider |= links[p];
                }
                reached = wider;
            }
            return reached;
        }

        int stepsBetween(int a, int b) {
            for (int steps = 0; steps < people; steps++) {
                if ((within(a, steps) >> b & 1) == 1) return steps;
            }
            return FAR;
        }

        int ownedBy(int person) {
            int letters = 0;
            for (int letter = 0; letter < LETTERS; letter++) {
                if (owner[letter] == person) letters |= 1 << letter;
            }
            return letters;
        }

        int writableBy(int person) {
            if (!lives(person)) return 0;
            int lenders = within(person, near) & living;
            int letters = 0;
            for (int letter = 0; letter < LETTERS; letter++) {
                int to = loanTo[letter];
                int from = owner[letter];
                boolean can = to == person || to == NONE && from != NONE && (lenders >> from & 1) == 1;
                if (can) letters |= 1 << letter;
            }
            return letters;
        }

        int loans() {
            int count = 0;
            for (int letter = 0; letter < LETTERS; letter++) {
                if (loanTo[letter] != NONE) count++;
            }
            return count;
        }

        void endLoan(int letter) {
            loanTo[letter] = NONE;
            loanLast[letter] = NONE;
        }

        /** The ledger is null in thought, where nothing is written down. */
        void pass(int letter, int to, int how, Book ledger) {
            if (ledger != null && owner[letter] != to) {
                ledger.write(letter, owner[letter], to, today, how);
            }
            owner[letter] = to;
        }

        int draw(int below) {
            draws = draws * 1664525 + 1013904223;
            return below > 0 ? (draws >>> 8) % below : 0;
        }

        /** How many died. In thought nobody is frail, for there are no draws. */
        int endDay(Texts texts, Book ledger, boolean withDraws) {
            today++;
            for (int letter = 0; letter < LETTERS; letter++) {
                if (loanTo[letter] != NONE && loanLast[letter] < today) endLoan(letter);
            }
            int died = 0;
            for (int person = 0; person < people; person++) {
                if (!lives(person)) continue;
                boolean ends = dies[person] == today;
                if (!ends && withDraws && frail[person] > 0) ends = draw(10000) < frail[person];
                if (!ends) continue;
                dies[person] = today;
                die(person, texts, ledger);
                died++;
            }
            return died;
        }

        void die(int person, Texts texts, Book ledger) {
            living &= ~(1 << person);
            for (int letter = 0; letter < LETTERS; letter++) {
                if (owner[letter] == person) {
                    int heir = texts.heirByWill(person, letter, living);
                    int how = heir == NONE ? BY_LAW : BY_WILL;
                    if (heir == NONE) heir = texts.law.heirOf(this, person, letter);
                    pass(letter, heir, how, ledger);
                }
                if (loanTo[letter] == person) endLoan(letter);
            }
            if (spouse[person] != NONE) spouse[spouse[person]] = NONE;
        }
    }

    /** THE BOOK: the changes of OWNER as they came. */
    private static final class Book {
        static final int WIDTH = 5;
        static final int MOST_LINES = 200;
        final int[] rows = new int[WIDTH * MOST_LINES];
        int lines = 0;

        void become(Book other) {
            lines = other.lines;
            System.arraycopy(other.rows, 0, rows, 0, rows.length);
        }

        void write(int letter, int from, int to, int day, int how) {
            if (lines >= MOST_LINES) return;
            int start = lines * WIDTH;
            rows[start] = letter;
            rows[start + 1] = from;
            rows[start + 2] = to;
            rows[start + 3] = day;
            rows[start + 4] = how;
            lines++;
        }

        int changesOf(int letter) {
            int count = 0;
            for (int line = 0; line < lines; line++) {
                if (rows[line * WIDTH] == letter) count++;
            }
            return count;
        }

        int changeOf(int letter, int i) {
            int count = 0;
            for (int line = 0; line < lines; line++) {
                if (rows[line * WIDTH] != letter) continue;
                if (count == i) return line;
                count++;
            }
            return NONE;
        }
    }

    /** The latest acts and days, each as the clan was before it. THE BOOK only grows by them: its length is enough. */
    private static final class History {
        static final int MOST = 8;
        final Clan[] before = new Clan[MOST];
        final int[] lines = new int[MOST];
        int next = 0;
        int count = 0;

        History() {
            for (int i = 0; i < MOST; i++) before[i] = new Clan();
        }

        void forget() {
            count = 0;
        }

        void keep(Clan clan, Book ledger) {
            before[next].become(clan);
            lines[next] = ledger.lines;
            next = (next + 1) % MOST;
            if (count < MOST) count++;
        }

        boolean goBack(Clan clan, Book ledger) {
            if (count == 0) return false;
            count--;
            next = (next + MOST - 1) % MOST;
            clan.become(before[next]);
            ledger.lines = lines[next];
            return true;
        }
    }

    /** THE LAW OF HEIRS, THE WILLS and DEEDS, as they were told. */
    private static final class Texts {
        static final int WILL_LINES = 12;
        final Law law = new Law();
        final int[] willLines = new int[PEOPLE];
        final int[] willLetters = new int[PEOPLE * WILL_LINES];
        final int[] willHeir = new int[PEOPLE * WILL_LINES];
        // The other one, behind if, or NONE.
        final int[] willOther = new int[PEOPLE * WILL_LINES];
        int deeds = 0;
        final int[] deedSigns = new int[DEEDS * SIGNS];
        final int[] deedLength = new int[DEEDS];
        final int[] deedLetters = new int[DEEDS];

        void become(Texts other) {
            law.become(other.law);
            System.arraycopy(other.willLines, 0, willLines, 0, willLines.length);
            System.arraycopy(other.willLetters, 0, willLetters, 0, willLetters.length);
            System.arraycopy(other.willHeir, 0, willHeir, 0, willHeir.length);
            System.arraycopy(other.willOther, 0, willOther, 0, willOther.length);
            deeds = other.deeds;
            System.arraycopy(other.deedSigns, 0, deedSigns, 0, deedSigns.length);
            System.arraycopy(other.deedLength, 0, deedLength, 0, deedLength.length);
            System.arraycopy(other.deedLetters, 0, deedLetters, 0, deedLetters.length);
        }

        /** Whom THE WILL names for a LETTER, or NONE. */
        int heirByWill(int person, int letter, int living) {
            int start = person * WILL_LINES;
            for (int line = start; line < start + willLines[person]; line++) {
                if ((willLetters[line] >> letter & 1) == 0) continue;
                int other = willOther[line];
                if (other != NONE && (living >> other & 1) == 0) continue;
                if ((living >> willHeir[line] & 1) == 1) return willHeir[line];
            }
            return NONE;
        }

        /** Reads the tape as the next DEED: its number, or NONE. */
        int addDeed(Tape tape) {
            if (deeds >= DEEDS) return NONE;
            int length = 0;
            int letters = 0;
            for (int place = 0; place < tape.length; place++) {
                int sign = tape.bytes[place];
                if (isBlank(sign)) continue;
                int letter = letterOf(sign);
                if (letter == NONE) return tape.wrong(1, place);
                if (length == SIGNS) return tape.wrong(3, place);
                deedSigns[deeds * SIGNS + length] = letter;
                letters |= 1 << letter;
                length++;
            }
            if (length == 0) return tape.wrong(4, tape.length);
            deedLength[deeds] = length;
            deedLetters[deeds] = letters;
            deeds++;
            return deeds - 1;
        }
    }

    /** THE LAW as postfix code: of each line the code of its worth, then that of its condition. */
    private static final class Law {
        static final int LINES = 16;
        // Code below FACT is a number, below ADD a fact.
        static final int FACT = 10000;
        static final int FACTS = 10;
        static final int ADD = 20000;
        static final int SUBTRACT = 20001;
        static final int MULTIPLY = 20002;
        static final int DIVIDE = 20003;
        static final int LESS = 20004;
        static final int EQUAL = 20005;
        static final int MORE = 20006;
        static final int NOT = 20007;
        static final int AND = 20008;
        static final int OR = 20009;
        // Eight open conditions hold two values each; 64 is far above what any law needs.
        static final int STACK = 64;

        final int[] code = new int[TAPE_BYTES];
        int length = 0;
        int lines = 0;
        final int[] worthStart = new int[LINES];
        final int[] conditionStart = new int[LINES];
        final int[] lineEnd = new int[LINES];
        final int[] facts = new int[FACTS];
        final int[] stack = new int[STACK];

        void become(Law other) {
            length = other.length;
            lines = other.lines;
            System.arraycopy(other.code, 0, code, 0, code.length);
            System.arraycopy(other.worthStart, 0, worthStart, 0, LINES);
            System.arraycopy(other.conditionStart, 0, conditionStart, 0, LINES);
            System.arraycopy(other.lineEnd, 0, lineEnd, 0, LINES);
        }

        void add(int part) {
            if (length >= code.length) return;
            code[length] = part;
            length++;
        }

        /** Who of all who LIVE is worth most, or NONE. */
        int heirOf(Clan clan, int leaver, int letter) {
            int heir = NONE;
            int most = 0;
            for (int person = 0; person < clan.people; person++) {
                if (!clan.lives(person)) continue;
                int worth = worthOf(clan, leaver, person, letter);
                if (worth > most) {
                    most = worth;
                    heir = person;
                }
            }
            return heir;
        }

        int worthOf(Clan clan, int leaver, int heir, int letter) {
            facts[0] = letter;
            facts[1] = letter == 0 || letter == 4 || letter == 8 || letter == 14 || letter == 20 ? 1 : 0;
            facts[2] = clan.today - clan.born[heir];
            facts[3] = clan.stepsBetween(leaver, heir);
            facts[4] = clan.isParent(leaver, heir) ? 1 : 0;
            facts[5] = clan.spouse[leaver] == heir ? 1 : 0;
            facts[6] = Integer.bitCount(clan.ownedBy(heir));
            facts[7] = clan.skill[heir];
            facts[8] = clan.coin[heir];
            facts[9] = clan.today;
            for (int line = 0; line < lines; line++) {
                boolean always = conditionStart[line] == lineEnd[line];
                if (always || run(conditionStart[line], lineEnd[line]) != 0) {
                    return run(worthStart[line], conditionStart[line]);
                }
            }
            return 0;
        }

        private int run(int from, int to) {
            int top = 0;
            for (int i = from; i < to; i++) {
                int part = code[i];
                if (part < ADD) {
                    if (top >= STACK) return 0;
                    stack[top] = part < FACT ? part : facts[part - FACT];
                    top++;
                } else if (part == NOT) {
                    if (top < 1) return 0;
                    stack[top - 1] = 1 - stack[top - 1];
                } else {
                    if (top < 2) return 0;
                    top--;
                    stack[top - 1] = combined(part, stack[top - 1], stack[top]);
                }
            }
            return top > 0 ? stack[top - 1] : 0;
        }

        private static int combined(int operator, int left, int right) {
            switch (operator) {
                case ADD: return left + right;
                case SUBTRACT: return left - right;
                case MULTIPLY: return left * right;
                case DIVIDE: return right != 0 ? left / right : 0;
                case LESS: return left < right ? 1 : 0;
                case EQUAL: return left == right ? 1 : 0;
                case MORE: return left > right ? 1 : 0;
                case AND: return left & right;
                case OR: return left | right;
                default: return 0;
            }
        }
    }

    /** The bytes told, and the latest FAULT found in them. */
    private static final class Tape {
        final int[] bytes = new int[TAPE_BYTES];
        int length = 0;
        int fault = 0;
        int faultPlace = NONE;

        void add(int number) {
            for (int shift = 24; shift >= 0; shift -= 8) {
                if (length >= TAPE_BYTES) return;
                bytes[length] = number >>> shift & 255;
                length++;
            }
        }

        void faultless() {
            fault = 0;
            faultPlace = NONE;
        }

        /** Answers NONE, so that a reader can end with it. */
        int wrong(int kind, int place) {
            fault = kind;
            faultPlace = place;
            return NONE;
        }
    }

    /** The tape cut into tokens, all at once: readers then only look at them. */
    private static final class Tokens {
        static final int END = 0;
        static final int WORD = 1;
        static final int NUMBER = 2;
        static final int SIGN = 3;
        static final int OTHER = 4;

        private final Tape tape;
        private final String words;
        private final String signs;
        private final int[] kinds = new int[TAPE_BYTES + 1];
        private final int[] values = new int[TAPE_BYTES + 1];
        private final int[] places = new int[TAPE_BYTES + 1];
        private int count = 0;
        private int current = 0;

        Tokens(Tape tape, String words, String signs) {
            this.tape = tape;
            this.words = words;
            this.signs = signs;
        }

        /** Cuts the tape and stands at the first token. */
        void cut() {
            count = 0;
            current = 0;
            int place = 0;
            for (int i = 0; i < TAPE_BYTES && place < tape.length; i++) {
                if (isBlank(tape.bytes[place])) {
                    place++;
                } else {
                    place = cutOne(place);
                }
            }
            keep(END, 0, tape.length);
        }

        /** Where the next one may begin. */
        private int cutOne(int place) {
            int sign = tape.bytes[place];
            if (isOfWord(sign)) return cutWord(place);
            if (isDigit(sign)) return cutNumber(place);
            if (sign == '"' && signs.indexOf('"') >= 0) return cutRow(place);
            keep(signs.indexOf((char) sign) >= 0 ? SIGN : OTHER, sign, place);
            return place + 1;
        }

        private int cutWord(int start) {
            int end = start;
            while (end < tape.length && isOfWord(tape.bytes[end])) end++;
            int word = wordAt(start, end);
            keep(word == NONE ? OTHER : WORD, word, start);
            return end;
        }

        private int cutNumber(int start) {
            int end = start;
            int value = 0;
            while (end < tape.length && isDigit(tape.bytes[end])) {
                if (end - start < 4) value = value * 10 + tape.bytes[end] - '0';
                end++;
            }
            keep(end - start > 4 ? OTHER : NUMBER, value, start);
            return end;
        }

        private int cutRow(int start) {
            keep(SIGN, '"', start);
            int end = start + 1;
            while (end < tape.length && tape.bytes[end] != '"') end++;
            return end + 1;
        }

        /** Which of the words stands there, or NONE. */
        private int wordAt(int start, int end) {
            int number = 0;
            int begin = 0;
            for (int i = 0; i <= words.length(); i++) {
                if (i < words.length() && words.charAt(i) != ' ') continue;
                if (i - begin == end - start && isSame(begin, start, end - start)) return number;
                number++;
                begin = i + 1;
            }
            return NONE;
        }

        private boolean isSame(int begin, int start, int length) {
            for (int i = 0; i < length; i++) {
                if (words.charAt(begin + i) != tape.bytes[start + i]) return false;
            }
            return true;
        }

        private void keep(int kind, int value, int place) {
            if (count >= kinds.length) return;
            kinds[count] = kind;
            values[count] = value;
            places[count] = place;
            count++;
        }

        /** A capital stands together with small letters, too, though no KEYWORD has one. */
        private static boolean isOfWord(int sign) {
            return sign >= 'a' && sign <= 'z' || sign >= 'A' && sign <= 'Z';
        }

        private static boolean isDigit(int sign) {
            return sign >= '0' && sign <= '9';
        }

        /** The end stays where it is. */
        void skip() {
            if (current < count - 1) current++;
        }

        int kind() {
            return kinds[current];
        }

        int value() {
            return values[current];
        }

        int place() {
            return places[current];
        }

        boolean isWord(int word) {
            return kinds[current] == WORD && values[current] == word;
        }

        boolean isSign(char sign) {
            return kinds[current] == SIGN && values[current] == sign;
        }

        /** A FAULT at the current token; false, so that a reader can end with it. */
        boolean wrong(int fault) {
            tape.fault = fault;
            tape.faultPlace = places[current];
            return false;
        }

        boolean skipWord(int word) {
            if (!isWord(word)) return wrong(1);
            skip();
            return true;
        }

        boolean skipSign(char sign) {
            if (!isSign(sign)) return wrong(1);
            skip();
            return true;
        }
    }

    /** Reads THE LAW into a draft, which becomes THE LAW if all of it can be read. */
    private static final class LawReader {
        static final String WORDS = "heir when or and not letter vowel age kin child spouse owns skill coin day";
        static final int HEIR = 0;
        static final int WHEN = 1;
        static final int OR = 2;
        static final int AND = 3;
        static final int NOT = 4;
        static final int FIRST_FACT = 5;
        static final int MOST_OPEN = 8;

        private final Tokens tokens;
        private final Law draft = new Law();

        LawReader(Tape tape) {
            tokens = new Tokens(tape, WORDS, ";+-*/()<=>");
        }

        /** How many lines, or NONE. */
        int read(Law law) {
            tokens.cut();
            draft.length = 0;
            draft.lines = 0;
            for (int i = 0; i < TAPE_BYTES && tokens.kind() != Tokens.END; i++) {
                if (!readLine()) return NONE;
            }
            law.become(draft);
            return law.lines;
        }

        private boolean readLine() {
            if (!tokens.isWord(HEIR)) return tokens.wrong(1);
            int line = draft.lines;
            if (line >= Law.LINES) return tokens.wrong(3);
            tokens.skip();
            draft.worthStart[line] = draft.length;
            if (!readValue()) return false;
            draft.conditionStart[line] = draft.length;
            if (tokens.isWord(WHEN)) {
                tokens.skip();
                if (!readCondition(0)) return false;
            }
            draft.lineEnd[line] = draft.length;
            draft.lines++;
            return tokens.skipSign(';');
        }

        /** B: an "or" waits until the claims joined by "and" behind it are read. */
        private boolean readCondition(int open) {
            if (!readClaim(open)) return false;
            boolean waiting = false;
            for (int i = 0; i < TAPE_BYTES; i++) {
                if (tokens.isWord(AND)) {
                    tokens.skip();
                    if (!readClaim(open)) return false;
                    draft.add(Law.AND);
                } else if (tokens.isWord(OR)) {
                    if (waiting) draft.add(Law.OR);
                    waiting = true;
                    tokens.skip();
                    if (!readClaim(open)) return false;
                } else {
                    break;
                }
            }
            if (waiting) draft.add(Law.OR);
            return true;
        }

        /** C. Who calls it stands deep already: the comparison is read here, not by one more call. */
        private boolean readClaim(int open) {
            boolean isNot = tokens.isWord(NOT);
            if (isNot || tokens.isSign('(')) {
                if (open >= MOST_OPEN) return tokens.wrong(3);
                tokens.skip();
                if (!isNot) return readCondition(open + 1) && tokens.skipSign(')');
                if (!readClaim(open + 1)) return false;
                draft.add(Law.NOT);
                return true;
            }
            if (!readValue()) return false;
            int operator = Law.EQUAL;
            if (tokens.isSign('<')) {
                operator = Law.LESS;
            } else if (tokens.isSign('>')) {
                operator = Law.MORE;
            } else if (!tokens.isSign('=')) {
                return tokens.wrong(1);
            }
            tokens.skip();
            if (!readValue()) return false;
            draft.add(operator);
            return true;
        }

        /** E: a "+" or "-" waits until the product behind it is read. */
        private boolean readValue() {
            if (!readUnit()) return false;
            int waiting = NONE;
            for (int i = 0; i < TAPE_BYTES; i++) {
                boolean isPlus = tokens.isSign('+');
                if (isPlus || tokens.isSign('-')) {
                    if (waiting != NONE) draft.add(waiting);
                    waiting = isPlus ? Law.ADD : Law.SUBTRACT;
                    tokens.skip();
                    if (!readUnit()) return false;
                } else if (tokens.isSign('*')) {
                    tokens.skip();
                    if (!readUnit()) return false;
                    draft.add(Law.MULTIPLY);
                } else if (tokens.isSign('/')) {
                    tokens.skip();
                    if (!readDivisor()) return false;
                } else {
                    break;
                }
            }
            if (waiting != NONE) draft.add(waiting);
            return true;
        }

        private boolean readDivisor() {
            if (tokens.kind() != Tokens.NUMBER) return tokens.wrong(1);
            if (tokens.value() == 0) return tokens.wrong(2);
            draft.add(tokens.value());
            draft.add(Law.DIVIDE);
            tokens.skip();
            return true;
        }

        private boolean readUnit() {
            if (tokens.kind() == Tokens.NUMBER) {
                draft.add(tokens.value());
            } else if (tokens.kind() == Tokens.WORD && tokens.value() >= FIRST_FACT) {
                draft.add(Law.FACT + tokens.value() - FIRST_FACT);
            } else {
                return tokens.wrong(1);
            }
            tokens.skip();
            return true;
        }
    }

    /** Reads THE WILL of a PERSON into a draft, which becomes it if all of it can be read. */
    private static final class WillReader {
        static final String WORDS = "leave to if rest";
        static final int LEAVE = 0;
        static final int TO = 1;
        static final int IF = 2;
        static final int REST = 3;

        private final Tape tape;
        private final Tokens tokens;
        private final int[] letters = new int[Texts.WILL_LINES];
        private final int[] heir = new int[Texts.WILL_LINES];
        private final int[] other = new int[Texts.WILL_LINES];
        private int lines = 0;
        private int testator = NONE;
        private int people = 0;

        WillReader(Tape tape) {
            this.tape = tape;
            tokens = new Tokens(tape, WORDS, ";\"");
        }

        /** How many lines, or NONE. */
        int read(int person, int howMany, Texts texts) {
            tokens.cut();
            lines = 0;
            testator = person;
            people = howMany;
            for (int i = 0; i < TAPE_BYTES && tokens.kind() != Tokens.END; i++) {
                if (!readLine()) return NONE;
            }
            int start = person * Texts.WILL_LINES;
            System.arraycopy(letters, 0, texts.willLetters, start, lines);
            System.arraycopy(heir, 0, texts.willHeir, start, lines);
            System.arraycopy(other, 0, texts.willOther, start, lines);
            texts.willLines[person] = lines;
            return lines;
        }

        private boolean readLine() {
            boolean isRest = tokens.isWord(REST);
            if (!isRest && !tokens.isWord(LEAVE)) return tokens.wrong(1);
            if (lines >= Texts.WILL_LINES) return tokens.wrong(3);
            tokens.skip();
            letters[lines] = ALL_LETTERS;
            if (!isRest && !readRow()) return false;
            if (!tokens.skipWord(TO) || !readPerson(heir)) return false;
            other[lines] = NONE;
            if (tokens.isWord(IF)) {
                tokens.skip();
                if (!readPerson(other)) return false;
            }
            lines++;
            return tokens.skipSign(';');
        }

        private boolean readPerson(int[] into) {
            if (tokens.kind() != Tokens.NUMBER) return tokens.wrong(1);
            int person = tokens.value();
            if (person >= people || person == testator) return tokens.wrong(2);
            into[lines] = person;
            tokens.skip();
            return true;
        }

        private boolean readRow() {
            if (!tokens.isSign('"')) return tokens.wrong(1);
            int start = tokens.place() + 1;
            int set = 0;
            for (int place = start; place < tape.length; place++) {
                if (tape.bytes[place] == '"') return endRow(set, place - start);
                int letter = letterOf(tape.bytes[place]);
                if (letter == NONE) {
                    tape.wrong(1, place);
                    return false;
                }
                set |= 1 << letter;
            }
            tape.wrong(1, tape.length);
            return false;
        }

        private boolean endRow(int set, int signs) {
            if (signs == 0 || signs > LETTERS) return tokens.wrong(2);
            letters[lines] = set;
            tokens.skip();
            return true;
        }
    }

    /** What would be: nothing of it stays. */
    private static final class Thoughts {
        private final Clan clan;
        private final Texts texts;
        // A clan to try things on.
        private final Clan trial = new Clan();
        private final int[] can = new int[PEOPLE];
        // How many, then the PEOPLE of the first and of the second wedding.
        private final int[] plan = new int[5];

        Thoughts(Clan clan, Texts texts) {
            this.clan = clan;
            this.texts = texts;
        }

        private void ask(Clan asked) {
            for (int person = 0; person < PEOPLE; person++) can[person] = asked.writableBy(person);
        }

        private int together(int people) {
            int letters = 0;
            for (int person = 0; person < PEOPLE; person++) {
                if ((people >> person & 1) == 1) letters |= can[person];
            }
            return letters;
        }

        int writableTogether(int people) {
            ask(clan);
            return together(people);
        }

        /** Who CAN write all of them alone. */
        int writers(int letters) {
            ask(clan);
            int people = 0;
            for (int person = 0; person < clan.people; person++) {
                if ((letters & ~can[person]) == 0) people |= 1 << person;
            }
            return people;
        }

        int signers(int letters) {
            ask(clan);
            int best = NONE;
            int fewest = PEOPLE + 1;
            for (int people = 1; people < 1 << clan.people; people++) {
                if ((people & ~clan.living) != 0 || Integer.bitCount(people) >= fewest) continue;
                if ((letters & ~together(people)) == 0) {
                    best = people;
                    fewest = Integer.bitCount(people);
                }
            }
            return best;
        }

        /** Without one who does not LIVE nothing is lost: he is never NEEDED. */
        int needed(int letters) {
            ask(clan);
            if ((letters & ~together(clan.living)) != 0) return 0;
            int people = 0;
            for (int person = 0; person < clan.people; person++) {
                int others = clan.living & ~(1 << person);
                if ((letters & ~together(others)) != 0) people |= 1 << person;
            }
            return people;
        }

        int speechless() {
            ask(clan);
            int people = 0;
            for (int person = 0; person < clan.people; person++) {
                if (clan.lives(person) && can[person] == 0) people |= 1 << person;
            }
            return people;
        }

        int valueOf(int letter) {
            ask(clan);
            return pairs(1 << letter) - pairs(0);
        }

        private int pairs(int more) {
            int count = 0;
            for (int person = 0; person < clan.people; person++) {
                if (!clan.lives(person)) continue;
                for (int deed = 0; deed < texts.deeds; deed++) {
                    if ((texts.deedLetters[deed] & ~(can[person] | more)) == 0) count++;
                }
            }
            return count;
        }

        /** DEEDS that someone CAN write alone, as a set. */
        private int spoken(Clan asked) {
            ask(asked);
            int deeds = 0;
            for (int deed = 0; deed < texts.deeds; deed++) {
                for (int person = 0; person < asked.people; person++) {
                    if ((texts.deedLetters[deed] & ~can[person]) == 0) deeds |= 1 << deed;
                }
            }
            return deeds;
        }

        int silencedBy(int person) {
            trial.become(clan);
            trial.die(person, texts, null);
            int before = spoken(clan);
            return before & ~spoken(trial);
        }

        int heirOf(int person, int letter) {
            trial.become(clan);
            trial.die(person, texts, null);
            return trial.owner[letter];
        }

        int firstDay(int person, int letters) {
            trial.become(clan);
            for (int ahead = 0; ahead <= DAYS_AHEAD; ahead++) {
                if ((letters & ~trial.writableBy(person)) == 0) return trial.today;
                trial.endDay(texts, null, false);
            }
            return NONE;
        }

        int bestHeir(int person, int what) {
            int best = NONE;
            int most = NONE;
            for (int heir = 0; heir < clan.people; heir++) {
                if (heir == person || !clan.lives(heir)) continue;
                trial.become(clan);
                for (int letter = 0; letter < LETTERS; letter++) {
                    if (clan.owner[letter] == person) trial.owner[letter] = heir;
                }
                int count = Integer.bitCount(spoken(trial));
                if (count > most) {
                    most = count;
                    best = heir;
                }
            }
            return what == 0 ? best : most;
        }

        int fewestWeddings(int person, int letters, int what) {
            for (int i = 0; i < plan.length; i++) plan[i] = NONE;
            trial.become(clan);
            if (isWritable(person, letters)) {
                plan[0] = 0;
            } else if (!planOne(person, letters)) {
                planTwo(person, letters);
            }
            return plan[what];
        }

        private boolean isWritable(int person, int letters) {
            return (letters & ~trial.writableBy(person)) == 0;
        }

        private boolean planOne(int person, int letters) {
            for (int a = 0; a < trial.people; a++) {
                for (int b = a + 1; b < trial.people; b++) {
                    if (!trial.mayWed(a, b)) continue;
                    trial.join(a, b);
                    boolean found = isWritable(person, letters);
                    trial.separate(a, b);
                    if (!found) continue;
                    plan[0] = 1;
                    plan[1] = a;
                    plan[2] = b;
                    return true;
                }
            }
            return false;
        }

        private void planTwo(int person, int letters) {
            for (int a = 0; a < trial.people; a++) {
                for (int b = a + 1; b < trial.people; b++) {
                    if (!trial.mayWed(a, b)) continue;
                    trial.join(a, b);
                    boolean found = planSecond(person, letters, a);
                    trial.separate(a, b);
                    if (!found) continue;
                    plan[0] = 2;
                    plan[1] = a;
                    plan[2] = b;
                    return;
                }
            }
        }

        private boolean planSecond(int person, int letters, int above) {
            for (int c = above + 1; c < trial.people; c++) {
                for (int d = c + 1; d < trial.people; d++) {
                    if (!trial.mayWed(c, d)) continue;
                    trial.join(c, d);
                    boolean found = isWritable(person, letters);
                    trial.separate(c, d);
                    if (!found) continue;
                    plan[3] = c;
                    plan[4] = d;
                    return true;
                }
            }
            return false;
        }
    }
}
