import java.util.Arrays;

/**
 * Rights in land, moves of courts told as texts, and searches for rows of moves; see README.md.
 *
 * <p>A state is a set of rights, right A as bit 0; sets of people, stops, wishes and moves are bits likewise.
 */
public final class FeignedSuit {
    public static final int NONE = -1;

    private static final int NO_ANSWER = -2;
    private static final int TOO_MUCH = -3;

    private static final int MOVE = 0;
    private static final int GIFT = 1;
    private static final int WISH = 2;
    private static final int STOP = 3;
    private static final int[] MOST_OF_SORT = {40, 8, 16, 8};
    private static final int[] PLACE_OF_SORT = {0, 40, 48, 64};
    private static final int ALL_WRITS = 72;

    private static final int RIGHTS = 24;
    private static final int ALL_RIGHTS = 16777215;
    private static final int PEOPLE = 16;
    private static final int EVERYBODY = 65535;
    private static final int MOST_NAMES = 10;
    private static final int LAST_YEAR = 2999;
    private static final int MOST_YEARS = 100;
    private static final int MOST_BYTES = 400;
    private static final int MOST_ROLLS = 30;
    private static final int MOST_ENTRIES = 24;
    private static final int MARKS = 4;

    private static final int NOT_BEGUN = 0;
    private static final int GOES = 1;
    private static final int FOUND = 2;
    private static final int NONE_LEADS = 3;
    private static final int SPENT = 4;
    private static final int MANY_STATES = 4000;
    private static final int MANY_SLOTS_SHIFT = 32 - 13;
    private static final int FEW_STATES = 500;
    private static final int FEW_SLOTS_SHIFT = 32 - 10;

    private final int[] tape = new int[MOST_BYTES];
    private int tapeLength = 0;
    private final Clerk clerk = new Clerk(tape);
    private final Land land = new Land();
    private final Land[] marks = new Land[MARKS];
    private final Terms terms = new Terms();
    private final Hunt hunt = new Hunt(FEW_STATES, FEW_SLOTS_SHIFT);
    private final Scales scales = new Scales();
    private final Judgment judgment = new Judgment();

    public FeignedSuit() {
    }

    public int feed(int a, int b, int c, int d, int e) {
        if (tapeLength + 20 > MOST_BYTES) {
            return NONE;
        }
        feedNumber(a);
        feedNumber(b);
        feedNumber(c);
        feedNumber(d);
        feedNumber(e);
        return tapeLength;
    }

    public int end(int n) {
        if (n < 0 || n > tapeLength) {
            return NONE;
        }
        tapeLength = n;
        return n;
    }

    public int text(int sort) {
        if (sort < MOVE || sort > STOP || !land.hasRoom(sort)) {
            return NONE;
        }
        Writ writ = clerk.read(tapeLength, sort);
        tapeLength = 0;
        return writ == null ? -2 - clerk.fault : land.add(sort, writ);
    }

    public boolean open(int move, int from, int to) {
        if (land.writ(MOVE, move) == null || !isYear(from) || !isYear(to) || to < from) {
            return false;
        }
        land.opens[move] = from;
        land.shuts[move] = to;
        return true;
    }

    public int force(int set) {
        if (set < 0 || set >= 1 << land.told[STOP]) {
            return NONE;
        }
        int before = land.stopsInForce;
        land.stopsInForce = set;
        return before;
    }

    public int holds(int right, int person) {
        if (right < 0 || right >= RIGHTS || person < NONE || person >= PEOPLE) {
            return NO_ANSWER;
        }
        int before = land.holders[right];
        land.holders[right] = person;
        return before;
    }

    public int first(int gift) {
        Writ given = land.writ(GIFT, gift);
        return given == null ? NONE : given.gives;
    }

    public int wished(int wish, int state) {
        Writ hope = land.writ(WISH, wish);
        if (hope == null || !isState(state)) {
            return NONE;
        }
        return hope.isTrue(hope.entry, state) ? 1 : 0;
    }

    public int may(int gift, int year, int move, int state) {
        if (land.writ(GIFT, gift) == null || !isYear(year) || land.writ(MOVE, move) == null || !isState(state)) {
            return NONE;
        }
        setTerms(gift, NONE, year);
        return land.ledTo(move, state, terms) == NONE ? 0 : 1;
    }

    public int after(int move, int state) {
        Writ made = land.writ(MOVE, move);
        return made == null || !isState(state) ? NONE : made.changed(state);
    }

    public int turned(int move, int state) {
        Writ made = land.writ(MOVE, move);
        return made == null || !isState(state) ? NONE : made.turners(state);
    }

    public boolean search(int gift, int wish, int year, int state) {
        Writ given = land.writ(GIFT, gift);
        Writ hope = land.writ(WISH, wish);
        if (given == null || hope == null || !isYear(year) || state != NONE && !isState(state)) {
            return false;
        }
        land.beginSearch(gift, wish, year, state == NONE ? given.gives : state);
        return true;
    }

    public int go(int n) {
        Hunt sought = land.search;
        if (n < 1 || n > MANY_STATES || sought == null || sought.standing == NOT_BEGUN) {
            return NONE;
        }
        setTerms(land.searchGift, land.searchWish, land.searchYear);
        return sought.run(land, terms, n);
    }

    public int sought(int what) {
        if (what < 0 || what > 3) {
            return NONE;
        }
        Hunt sought = land.search;
        if (sought == null) {
            return what == 3 ? NONE : 0;
        }
        switch (what) {
            case 0: return sought.standing;
            case 1: return sought.states;
            case 2: return sought.passed;
            default: return sought.rowLength();
        }
    }

    public int row(int k) {
        return land.search == null ? NONE : land.search.moveOfRow(k);
    }

    public int met(int k) {
        Hunt sought = land.search;
        return sought == null || k < 0 || k >= sought.states ? NONE : sought.state[k];
    }

    public int reached(int gift, int wish, int year) {
        return setTerms(gift, wish, year) ? hunt.whole(land, terms) : NONE;
    }

    public int fewest(int gift, int wish, int year, int what) {
        if (what < 0 || what > 1 || !setTerms(gift, wish, year)) {
            return NONE;
        }
        int names = land.lenders();
        if (Integer.bitCount(names) > MOST_NAMES) {
            return TOO_MUCH;
        }
        int set = fewestNames(names);
        return what == 1 || set < 0 ? set : Integer.bitCount(set);
    }

    public int least(int gift, int wish, int year, int what) {
        if (what < 0 || what > 1 || !setTerms(gift, wish, year)) {
            return NONE;
        }
        return scales.lightest(land, terms, hunt, what == 1);
    }

    public int safe(int gift, int wish, int year, int trusted) {
        if (trusted < 0 || trusted > EVERYBODY || !setTerms(gift, wish, year)) {
            return NONE;
        }
        terms.trusted = trusted;
        int standing = hunt.whole(land, terms);
        if (standing == FOUND) {
            return hunt.rowLength();
        }
        return standing == SPENT ? TOO_MUCH : NO_ANSWER;
    }

    public long keys(int gift, int wish, int year) {
        if (!setTerms(gift, wish, year)) {
            return NONE;
        }
        long all = terms.moves;
        int standing = hunt.whole(land, terms);
        if (standing == NONE_LEADS) {
            return (1L << land.told[MOVE]) - 1;
        }
        // A row that was found stays the first one found without a move that it does not have.
        long doubtful = standing == FOUND ? hunt.movesOfRow() : all;
        long needed = 0;
        for (int move = 0; move < land.told[MOVE]; move++) {
            terms.moves = all & ~(1L << move);
            if ((doubtful >> move & 1) != 0 && hunt.whole(land, terms) == NONE_LEADS) {
                needed |= 1L << move;
            }
        }
        return needed;
    }

    public int last(int gift, int wish, int from, int to) {
        if (!isYear(from) || !isYear(to) || to < from || to - from >= MOST_YEARS || !setTerms(gift, wish, from)) {
            return NONE;
        }
        long before = NONE;
        for (int year = from; year <= to; year++) {
            terms.moves = land.movesOpenIn(year);
            // Years differ by their open moves alone.
            if (terms.moves != before && hunt.whole(land, terms) == NONE_LEADS) {
                return year;
            }
            before = terms.moves;
        }
        return NO_ANSWER;
    }

    public int roll(int gift, int year) {
        if (land.writ(GIFT, gift) == null || !isYear(year)) {
            return NONE;
        }
        return land.rolls.begin(gift, year);
    }

    public int enter(int roll, int move) {
        if (!land.rolls.has(roll) || land.writ(MOVE, move) == null) {
            return NONE;
        }
        return land.rolls.write(roll, move);
    }

    public int judged(int roll, int what) {
        if (what < 0 || what > 1 || !judge(roll)) {
            return NONE;
        }
        return what == 0 ? judgment.made : judgment.state;
    }

    public int feigned(int roll) {
        if (!judge(roll)) {
            return NONE;
        }
        int set = 0;
        for (int wish = 0; wish < land.told[WISH]; wish++) {
            Writ hope = land.writ(WISH, wish);
            if (hope != null && hope.isTrue(hope.entry, judgment.state) && !hope.isTrue(hope.entry, judgment.start)) {
                set |= 1 << wish;
            }
        }
        return set;
    }

    public int claims(int roll, int what) {
        if (what < 0 || what > 1 || !judge(roll)) {
            return NONE;
        }
        int rights = what == 0 ? judgment.start & ~judgment.state : judgment.start & judgment.state;
        return land.holdersOf(rights);
    }

    public int risk(int roll, int k) {
        if (k < 0 || !judge(roll) || k >= judgment.made) {
            return NONE;
        }
        judgment.run(land, roll, land.stopsInForce, k);
        Writ made = land.writ(MOVE, land.rolls.move(roll, k));
        return made == null ? NONE : made.turners(judgment.state);
    }

    public int costs(int roll, int what) {
        if (what < 0 || what > 1 || !judge(roll)) {
            return NONE;
        }
        return what == 0 ? judgment.fees : judgment.days;
    }

    public int words(int gift, int wish, int year, int rolls, int what) {
        if (what < 0 || what > 1 || rolls < 0 || rolls >= 1 << land.rolls.told || !setTerms(gift, wish, year)) {
            return NONE;
        }
        terms.stops = (1 << land.told[STOP]) - 1;
        // What all stops together do not bar, none of their sets bars.
        if (hunt.whole(land, terms) != NONE_LEADS) {
            return NO_ANSWER;
        }
        for (int size = 0; size <= land.told[STOP]; size++) {
            int least = NONE;
            int rivals = 0;
            for (int set = 0; set < 1 << land.told[STOP]; set++) {
                if (Integer.bitCount(set) == size && isBarring(set, rolls)) {
                    least = rivals == 0 ? set : least;
                    rivals++;
                }
            }
            if (rivals > 0) {
                return what == 0 ? least : rivals;
            }
        }
        return NO_ANSWER;
    }

    public int mark(int k) {
        if (k < 0 || k >= MARKS) {
            return NONE;
        }
        if (marks[k] == null) {
            marks[k] = new Land();
        }
        marks[k].copyFrom(land);
        return land.told[MOVE];
    }

    public int back(int k) {
        if (k < 0 || k >= MARKS || marks[k] == null) {
            return NONE;
        }
        land.copyFrom(marks[k]);
        return land.told[MOVE];
    }

    public int count(int what) {
        if (what >= MOVE && what <= STOP) {
            return land.told[what];
        }
        if (what == 4) {
            return land.rolls.told;
        }
        return what == 5 ? tapeLength : NONE;
    }

    private static boolean isYear(int year) {
        return year >= 0 && year <= LAST_YEAR;
    }

    private static boolean isState(int state) {
        return state >= 0 && state <= ALL_RIGHTS;
    }

    private void feedNumber(int number) {
        for (int shift = 24; shift >= 0; shift -= 8) {
            if (tapeLength < MOST_BYTES) {
                tape[tapeLength] = number >> shift & 255;
                tapeLength++;
            }
        }
    }

    /** False, if the gift, the wish or the year is not there. */
    private boolean setTerms(int gift, int wish, int year) {
        terms.gift = land.writ(GIFT, gift);
        terms.wish = land.writ(WISH, wish);
        terms.moves = land.movesOpenIn(year);
        terms.stops = land.stopsInForce;
        terms.trusted = EVERYBODY;
        return terms.gift != null && terms.wish != null && isYear(year);
    }

    /** The set with fewest people that suffices, under the terms as they are; NO_ANSWER if none does. */
    private int fewestNames(int names) {
        long all = terms.moves;
        // What none of all moves leads to, none of fewer moves leads to.
        if (hunt.whole(land, terms) == NONE_LEADS) {
            return NO_ANSWER;
        }
        for (int size = 0; size <= Integer.bitCount(names); size++) {
            int set = 0;
            for (int sets = 1 << Integer.bitCount(names); sets > 0; sets--) {
                if (Integer.bitCount(set) == size) {
                    terms.moves = all & land.movesLentBy(set);
                    // A set with idle people has the moves of a lesser one, which was tried.
                    if (land.lendersOf(terms.moves) == set && hunt.whole(land, terms) == FOUND) {
                        return set;
                    }
                }
                set = nextSubset(set, names);
            }
        }
        return NO_ANSWER;
    }

    /** The next greater set within these names, and the empty one behind the greatest. */
    private static int nextSubset(int set, int names) {
        return (set | ~names) + 1 & names;
    }

    private boolean judge(int roll) {
        return judgment.run(land, roll, land.stopsInForce, MOST_ENTRIES);
    }

    /** Whether the stops shut the wish, under the terms, and leave each of the rolls as it is. */
    private boolean isBarring(int stops, int rolls) {
        for (int roll = 0; roll < land.rolls.told; roll++) {
            if ((rolls >> roll & 1) != 0) {
                judgment.run(land, roll, stops, MOST_ENTRIES);
                if (judgment.made < land.rolls.length(roll)) {
                    return false;
                }
            }
        }
        terms.stops = stops;
        return hunt.whole(land, terms) == NONE_LEADS;
    }

    /** What a text tells: of a move its needs, of a gift its stops, of a wish or a stop its test. */
    private static final class Writ {
        static final int TRUE = -1;
        static final int FALSE = -2;
        /** Of each fact: rights, fewest and most of them, where to go on if it holds, and if not. */
        static final int CELLS = 5;

        int gives = 0;
        int ends = 0;
        int days = 0;
        int fee = 0;
        int lenders = 0;
        int entry = TRUE;
        int[] facts = null;
        /** Pairs: a person, and the entry of the test by which he could turn. */
        int[] turns = null;

        boolean isTrue(int from, int state) {
            int at = from;
            if (facts == null) {
                return at == TRUE;
            }
            // No fact is looked at twice, since each leads to facts behind it or in an earlier clause.
            for (int left = facts.length; left > 0 && at >= 0 && at + CELLS <= facts.length; left -= CELLS) {
                int rights = Integer.bitCount(state & facts[at]);
                boolean holdsHere = rights >= facts[at + 1] && rights <= facts[at + 2];
                at = holdsHere ? facts[at + 3] : facts[at + 4];
            }
            return at == TRUE;
        }

        int changed(int state) {
            return state & ~ends | gives;
        }

        int turners(int state) {
            int people = 0;
            if (turns == null) {
                return people;
            }
            for (int i = 0; i + 1 < turns.length; i += 2) {
                if (isTrue(turns[i + 1], state)) {
                    people |= 1 << turns[i];
                }
            }
            return people;
        }
    }

    /** Reads a text into a writ, or finds its first fault. */
    private static final class Clerk {
        static final int WRONG = 0;
        static final int BAD_NUMBER = 1;
        static final int TOO_DEEP = 2;
        static final int TOO_MANY_FACTS = 3;
        static final int TOO_MANY_CLAUSES = 4;

        static final int BEHIND = -1;
        static final int NO_HOLE = -1;
        static final int DEEPEST = 10;
        static final int MOST_FACTS = 60;
        static final int MOST_CLAUSES = 12;
        static final int MOST_DIGITS = 5;
        /** More than can wait: ten that lie within one another, and an or and an and in each. */
        static final int MOST_WAITING = 40;

        static final int UNKNOWN = 0;
        static final int NEED = 1;
        static final int GIVE = 2;
        static final int END = 3;
        static final int DAYS = 4;
        static final int FEE = 5;
        static final int LEND = 6;
        static final int TURN = 7;
        static final int HAVE = 8;
        static final int BAR = 9;

        /** What waits for its facts; a greater one binds closer. */
        static final int BRACKET = 0;
        static final int OR = 1;
        static final int AND = 2;
        static final int NOT = 3;

        final int[] bytes;
        int length = 0;
        int at = 0;
        int fault = 0;
        int seenWords = 0;

        final int[] facts = new int[MOST_FACTS * Writ.CELLS];
        int cells = 0;
        final int[] turns = new int[MOST_CLAUSES * 2];
        int turnCells = 0;

        final int[] waiting = new int[MOST_WAITING];
        int waits = 0;
        int depth = 0;
        int brackets = 0;

        /**
         * Pieces of the test that is being read: where each begins, and the cells of its facts that do not
         * yet know where to go on if it holds, and if not; every such cell has the next one in it.
         */
        final int[] begins = new int[MOST_WAITING];
        final int[] yesHoles = new int[MOST_WAITING];
        final int[] noHoles = new int[MOST_WAITING];
        int pieces = 0;

        Clerk(int[] tape) {
            bytes = tape;
        }

        /** Null, if the first bytes of the tape, so many, have a fault. */
        Writ read(int tapeLength, int sort) {
            length = Math.min(tapeLength, bytes.length);
            at = 0;
            fault = 0;
            seenWords = 0;
            cells = 0;
            turnCells = 0;
            Writ writ = new Writ();
            if (sort == MOVE || sort == GIFT) {
                // Needs must all hold, and of stops one is enough.
                writ.entry = sort == MOVE ? Writ.TRUE : Writ.FALSE;
                boolean more = true;
                for (int clauses = 0; clauses <= MOST_CLAUSES && more; clauses++) {
                    readClause(writ, clauseWord(sort, clauses));
                    more = fault == 0 && look() == ';';
                    at += more ? 1 : 0;
                }
            } else {
                writ.entry = readTest(Writ.TRUE, Writ.FALSE);
            }
            if (fault == 0 && look() != BEHIND) {
                fail(WRONG);
            }
            if (fault != 0) {
                return null;
            }
            writ.facts = Arrays.copyOf(facts, cells);
            writ.turns = Arrays.copyOf(turns, turnCells);
            return writ;
        }

        /** Goes past the word that a clause begins with; UNKNOWN, if it has a fault. */
        private int clauseWord(int sort, int earlier) {
            look();
            int word = sort == MOVE ? moveWord() : giftWord();
            boolean second = (word == DAYS || word == FEE) && (seenWords >> word & 1) != 0;
            if (word == UNKNOWN) {
                fail(WRONG);
            } else if (earlier >= MOST_CLAUSES || second) {
                fail(TOO_MANY_CLAUSES);
                return UNKNOWN;
            }
            seenWords |= 1 << word;
            skipWord();
            return word;
        }

        private int moveWord() {
            if (isWord("need")) {
                return NEED;
            }
            if (isWord("give")) {
                return GIVE;
            }
            if (isWord("end")) {
                return END;
            }
            if (isWord("days")) {
                return DAYS;
            }
            if (isWord("fee")) {
                return FEE;
            }
            if (isWord("lend")) {
                return LEND;
            }
            return isWord("turn") ? TURN : UNKNOWN;
        }

        private int giftWord() {
            if (isWord("have")) {
                return HAVE;
            }
            return isWord("stop") ? BAR : UNKNOWN;
        }

        private void readClause(Writ writ, int word) {
            switch (word) {
                case NEED:
                    writ.entry = readTest(writ.entry, Writ.FALSE);
                    break;
                case BAR:
                    writ.entry = readTest(Writ.TRUE, writ.entry);
                    break;
                case GIVE:
                case HAVE:
                    writ.gives |= readRights();
                    break;
                case END:
                    writ.ends |= readRights();
                    break;
                case DAYS:
                    writ.days = readNumber(999);
                    break;
                case FEE:
                    writ.fee = readNumber(9999);
                    break;
                case LEND:
                    writ.lenders |= 1 << readNumber(PEOPLE - 1);
                    break;
                case TURN:
                    int person = readNumber(PEOPLE - 1);
                    addTurn(person, skipIf() ? readTest(Writ.TRUE, Writ.FALSE) : Writ.TRUE);
                    break;
                default:
                    break;
            }
        }

        private boolean skipIf() {
            look();
            if (fault != 0 || !isWord("if")) {
                return false;
            }
            skipWord();
            return true;
        }

        private void addTurn(int person, int entry) {
            if (turnCells + 2 <= turns.length) {
                turns[turnCells] = person;
                turns[turnCells + 1] = entry;
                turnCells += 2;
            }
        }

        /** The entry of the test that comes next, which goes on as told where it holds, and where not. */
        private int readTest(int yes, int no) {
            waits = 0;
            depth = 0;
            brackets = 0;
            pieces = 0;
            boolean factDue = true;
            boolean more = true;
            for (int signs = 0; signs <= MOST_BYTES && more && fault == 0; signs++) {
                int sign = look();
                if (factDue) {
                    factDue = sign == '[' || isWord("not");
                    readFact(sign);
                } else if (isWord("and") || isWord("or")) {
                    factDue = true;
                    readJoin(sign == 'a' ? AND : OR);
                } else if (sign == ']' && brackets > 0) {
                    closeBracket();
                } else {
                    more = false;
                }
            }
            if (brackets > 0) {
                fail(WRONG);
            }
            if (fault != 0) {
                return Writ.FALSE;
            }
            joinDownTo(OR);
            fillHoles(yesHoles[0], yes);
            fillHoles(noHoles[0], no);
            return begins[0];
        }

        private void readFact(int sign) {
            if (sign == '[' || isWord("not")) {
                readOpening(sign == '[' ? BRACKET : NOT);
                return;
            }
            boolean counted = isWord("of");
            if (!counted && !isRight(sign)) {
                fail(WRONG);
            } else if (cells >= facts.length) {
                fail(TOO_MANY_FACTS);
            } else if (counted) {
                skipWord();
                readCounted();
            } else {
                at++;
                addFact(1 << sign - 'A', 1, 1);
            }
        }

        private void readOpening(int sort) {
            if (depth >= DEEPEST) {
                fail(TOO_DEEP);
                return;
            }
            depth++;
            if (sort == BRACKET) {
                brackets++;
                at++;
            } else {
                skipWord();
            }
            addWaiting(sort);
        }

        private void readCounted() {
            int rights = readRights();
            int sign = look();
            if (sign != '<' && sign != '=' && sign != '>') {
                fail(WRONG);
                return;
            }
            at++;
            boolean orEqual = sign == '=';
            if (sign != '=' && at < length && bytes[at] == '=') {
                orEqual = true;
                at++;
            }
            int number = readNumber(RIGHTS);
            int beside = orEqual ? 0 : 1;
            addFact(rights, sign == '<' ? 0 : number + beside, sign == '>' ? RIGHTS : number - beside);
        }

        private void readJoin(int sort) {
            skipWord();
            joinDownTo(sort);
            addWaiting(sort);
        }

        private void closeBracket() {
            at++;
            joinDownTo(OR);
            if (waits > 0) {
                waits--;
            }
            brackets--;
            depth--;
            turnByNots();
        }

        private void addWaiting(int sort) {
            if (waits < MOST_WAITING) {
                waiting[waits] = sort;
                waits++;
            }
        }

        /** A new piece of one fact: that a state has so many of these rights. */
        private void addFact(int rights, int fewestRights, int mostRights) {
            if (fault != 0 || cells + Writ.CELLS > facts.length || pieces >= MOST_WAITING) {
                return;
            }
            facts[cells] = rights;
            facts[cells + 1] = fewestRights;
            facts[cells + 2] = mostRights;
            facts[cells + 3] = NO_HOLE;
            facts[cells + 4] = NO_HOLE;
            begins[pieces] = cells;
            yesHoles[pieces] = cells + 3;
            noHoles[pieces] = cells + 4;
            pieces++;
            cells += Writ.CELLS;
            turnByNots();
        }

        /** The nots that wait for the last piece have it now. */
        private void turnByNots() {
            while (waits > 0 && pieces > 0 && waiting[waits - 1] == NOT) {
                int holes = yesHoles[pieces - 1];
                yesHoles[pieces - 1] = noHoles[pieces - 1];
                noHoles[pieces - 1] = holes;
                waits--;
                depth--;
            }
        }

        /** Joins the last pieces by what waits and binds at least as close as this. */
        private void joinDownTo(int sort) {
            while (waits > 0 && pieces > 1 && waiting[waits - 1] >= sort) {
                waits--;
                pieces--;
                if (waiting[waits] == AND) {
                    fillHoles(yesHoles[pieces - 1], begins[pieces]);
                    yesHoles[pieces - 1] = yesHoles[pieces];
                    noHoles[pieces - 1] = chained(noHoles[pieces], noHoles[pieces - 1]);
                } else {
                    fillHoles(noHoles[pieces - 1], begins[pieces]);
                    noHoles[pieces - 1] = noHoles[pieces];
                    yesHoles[pieces - 1] = chained(yesHoles[pieces], yesHoles[pieces - 1]);
                }
            }
        }

        private void fillHoles(int holes, int target) {
            int hole = holes;
            for (int left = cells; left > 0 && hole >= 0 && hole < cells; left--) {
                int next = facts[hole];
                facts[hole] = target;
                hole = next;
            }
        }

        /** The holes of both, the first ones ahead. */
        private int chained(int holes, int others) {
            int hole = holes;
            for (int left = cells; left > 0 && hole >= 0 && hole < cells; left--) {
                if (facts[hole] == NO_HOLE) {
                    facts[hole] = others;
                    return holes;
                }
                hole = facts[hole];
            }
            return others;
        }

        private int readRights() {
            if (!isRight(look())) {
                fail(WRONG);
            }
            int rights = 0;
            for (int sign = look(); at < length && isRight(sign); sign = look()) {
                rights |= 1 << sign - 'A';
                at++;
            }
            return rights;
        }

        /** Zero, if there is a fault. */
        private int readNumber(int most) {
            if (!isDigit(look())) {
                fail(WRONG);
            }
            int value = 0;
            int digits = 0;
            while (at + digits < length && isDigit(bytes[at + digits])) {
                if (digits < MOST_DIGITS) {
                    value = value * 10 + bytes[at + digits] - '0';
                }
                digits++;
            }
            if (digits > MOST_DIGITS || value > most) {
                fail(BAD_NUMBER);
                return 0;
            }
            at += digits;
            return value;
        }

        /** Goes past blanks: the byte that stands there, or BEHIND. */
        private int look() {
            while (at < length && bytes[at] == ' ') {
                at++;
            }
            return at < length ? bytes[at] : BEHIND;
        }

        private void skipWord() {
            while (at < length && isSmall(bytes[at])) {
                at++;
            }
        }

        private boolean isWord(String word) {
            int letters = word.length();
            if (at + letters > length || at + letters < length && isSmall(bytes[at + letters])) {
                return false;
            }
            for (int i = 0; i < letters; i++) {
                if (bytes[at + i] != word.charAt(i)) {
                    return false;
                }
            }
            return true;
        }

        private static boolean isSmall(int sign) {
            return sign >= 'a' && sign <= 'z';
        }

        private static boolean isRight(int sign) {
            return sign >= 'A' && sign <= 'X';
        }

        private static boolean isDigit(int sign) {
            return sign >= '0' && sign <= '9';
        }

        private void fail(int why) {
            if (fault == 0) {
                fault = 1 + 8 * at + why;
            }
        }
    }

    /** By what a row of moves is sought. */
    private static final class Terms {
        Writ gift = null;
        Writ wish = null;
        long moves = 0;
        int stops = 0;
        int trusted = EVERYBODY;
    }

    /** All that a mark keeps. */
    private static final class Land {
        final Writ[] writs = new Writ[ALL_WRITS];
        final int[] told = new int[STOP + 1];
        final int[] opens = new int[MOST_OF_SORT[MOVE]];
        final int[] shuts = new int[MOST_OF_SORT[MOVE]];
        int stopsInForce = 0;
        final int[] holders = new int[RIGHTS];
        final Rolls rolls = new Rolls();
        /** Null ahead of the first search: its rows are long, and many objects never need them. */
        Hunt search = null;
        int searchGift = 0;
        int searchWish = 0;
        int searchYear = 0;

        Land() {
            Arrays.fill(holders, NONE);
        }

        boolean hasRoom(int sort) {
            return told[sort] < MOST_OF_SORT[sort];
        }

        int add(int sort, Writ writ) {
            int number = told[sort];
            writs[PLACE_OF_SORT[sort] + number] = writ;
            told[sort]++;
            if (sort == MOVE) {
                opens[number] = 0;
                shuts[number] = LAST_YEAR;
            }
            return number;
        }

        /** Null, if there is none. */
        Writ writ(int sort, int number) {
            return number < 0 || number >= told[sort] ? null : writs[PLACE_OF_SORT[sort] + number];
        }

        long movesOpenIn(int year) {
            long moves = 0;
            for (int move = 0; move < told[MOVE]; move++) {
                if (opens[move] <= year && year <= shuts[move]) {
                    moves |= 1L << move;
                }
            }
            return moves;
        }

        int lenders() {
            return lendersOf(-1L);
        }

        int lendersOf(long moves) {
            int people = 0;
            for (int move = 0; move < told[MOVE]; move++) {
                if ((moves >> move & 1) != 0 && writs[move] != null) {
                    people |= writs[move].lenders;
                }
            }
            return people;
        }

        long movesLentBy(int people) {
            long moves = 0;
            for (int move = 0; move < told[MOVE]; move++) {
                if (writs[move] != null && (writs[move].lenders & ~people) == 0) {
                    moves |= 1L << move;
                }
            }
            return moves;
        }

        int holdersOf(int rights) {
            int people = 0;
            for (int right = 0; right < RIGHTS; right++) {
                if ((rights >> right & 1) != 0 && holders[right] != NONE) {
                    people |= 1 << holders[right];
                }
            }
            return people;
        }

        boolean isStopped(int state, Terms terms) {
            if (terms.gift == null || terms.gift.isTrue(terms.gift.entry, state)) {
                return true;
            }
            for (int stop = 0; terms.stops >> stop != 0 && stop < told[STOP]; stop++) {
                Writ writ = writ(STOP, stop);
                if ((terms.stops >> stop & 1) != 0 && writ != null && writ.isTrue(writ.entry, state)) {
                    return true;
                }
            }
            return false;
        }

        /** The state after a move that may be made; NONE, if it may not. */
        int ledTo(int move, int state, Terms terms) {
            Writ made = writ(MOVE, move);
            if (made == null || (terms.moves >> move & 1) == 0) {
                return NONE;
            }
            int next = made.changed(state);
            if (next == state || !made.isTrue(made.entry, state) || isStopped(next, terms)) {
                return NONE;
            }
            return next;
        }

        void beginSearch(int gift, int wish, int year, int state) {
            searchGift = gift;
            searchWish = wish;
            searchYear = year;
            if (search == null) {
                search = new Hunt(MANY_STATES, MANY_SLOTS_SHIFT);
            }
            search.begin(state, writ(WISH, wish));
        }

        void copyFrom(Land other) {
            System.arraycopy(other.told, 0, told, 0, told.length);
            System.arraycopy(other.opens, 0, opens, 0, opens.length);
            System.arraycopy(other.shuts, 0, shuts, 0, shuts.length);
            System.arraycopy(other.holders, 0, holders, 0, holders.length);
            for (int i = 0; i < ALL_WRITS; i++) {
                writs[i] = other.writs[i];
            }
            stopsInForce = other.stopsInForce;
            rolls.copyFrom(other.rolls);
            searchGift = other.searchGift;
            searchWish = other.searchWish;
            searchYear = other.searchYear;
            copySearch(other.search);
        }

        private void copySearch(Hunt other) {
            if (other == null || other.standing == NOT_BEGUN) {
                if (search != null) {
                    search.forget();
                }
                return;
            }
            if (search == null) {
                search = new Hunt(MANY_STATES, MANY_SLOTS_SHIFT);
            }
            search.copyFrom(other);
        }
    }

    private static final class Rolls {
        int told = 0;
        final int[] gift = new int[MOST_ROLLS];
        final int[] year = new int[MOST_ROLLS];
        final int[] entries = new int[MOST_ROLLS];
        final int[] moves = new int[MOST_ROLLS * MOST_ENTRIES];

        boolean has(int roll) {
            return roll >= 0 && roll < told;
        }

        int begin(int givenBy, int inYear) {
            if (told >= MOST_ROLLS) {
                return NONE;
            }
            gift[told] = givenBy;
            year[told] = inYear;
            entries[told] = 0;
            told++;
            return told - 1;
        }

        int write(int roll, int move) {
            if (!has(roll) || entries[roll] >= MOST_ENTRIES) {
                return NONE;
            }
            moves[roll * MOST_ENTRIES + entries[roll]] = move;
            entries[roll]++;
            return entries[roll];
        }

        int length(int roll) {
            return has(roll) ? entries[roll] : 0;
        }

        int move(int roll, int k) {
            return k >= 0 && k < length(roll) ? moves[roll * MOST_ENTRIES + k] : NONE;
        }

        void copyFrom(Rolls other) {
            told = other.told;
            System.arraycopy(other.gift, 0, gift, 0, gift.length);
            System.arraycopy(other.year, 0, year, 0, year.length);
            System.arraycopy(other.entries, 0, entries, 0, entries.length);
            System.arraycopy(other.moves, 0, moves, 0, moves.length);
        }
    }

    /** What the moves of a roll come to, one after the other. */
    private static final class Judgment {
        final Terms terms = new Terms();
        int start = 0;
        int state = 0;
        int made = 0;
        int fees = 0;
        int days = 0;

        /** False without the roll; of its moves so many at most are made. */
        boolean run(Land land, int roll, int stops, int most) {
            if (!land.rolls.has(roll)) {
                return false;
            }
            Writ gift = land.writ(GIFT, land.rolls.gift[roll]);
            if (gift == null) {
                return false;
            }
            terms.gift = gift;
            terms.moves = land.movesOpenIn(land.rolls.year[roll]);
            terms.stops = stops;
            start = gift.gives;
            state = start;
            made = 0;
            fees = 0;
            days = 0;
            while (made < most && made < land.rolls.length(roll)) {
                int move = land.rolls.move(roll, made);
                Writ writ = land.writ(MOVE, move);
                int next = land.ledTo(move, state, terms);
                if (writ == null || next == NONE) {
                    break;
                }
                state = next;
                fees += writ.fee;
                days += writ.days;
                made++;
            }
            return true;
        }
    }

    /** A search, state by state. */
    private static final class Hunt {
        static final int SPREAD = -1640531527;
        /** A link is the place of the state that was gone through, times this, and the move. */
        static final int LINK = 64;

        final int most;
        final int shift;
        final int[] state;
        final int[] link;
        /** Places of states in the row, plus one; 0 where no state is. */
        final int[] slots;
        int states = 0;
        int passed = 0;
        int standing = NOT_BEGUN;

        Hunt(int mostStates, int slotShift) {
            most = mostStates;
            shift = slotShift;
            state = new int[mostStates];
            link = new int[mostStates];
            slots = new int[1 << 32 - slotShift];
        }

        /** Without a wish (null) nothing is found. */
        void begin(int from, Writ wish) {
            forget();
            standing = GOES;
            meet(from, 0, wish);
        }

        void forget() {
            // The last one first, so that those ahead of it are still found where they stand.
            for (int i = states - 1; i >= 0; i--) {
                slots[slotOf(state[i])] = 0;
            }
            states = 0;
            passed = 0;
            standing = NOT_BEGUN;
        }

        /** A search of its own, from the first state of the gift to its end: how it stands then. */
        int whole(Land land, Terms terms) {
            if (terms.gift == null) {
                return NOT_BEGUN;
            }
            begin(terms.gift.gives, terms.wish);
            for (int gone = 0; gone < most && standing == GOES; gone++) {
                passOne(land, terms);
            }
            return standing;
        }

        int run(Land land, Terms terms, int n) {
            int gone = 0;
            while (gone < n && standing == GOES) {
                passOne(land, terms);
                gone++;
            }
            return gone;
        }

        private void passOne(Land land, Terms terms) {
            if (passed >= states) {
                standing = NONE_LEADS;
                return;
            }
            int from = state[passed];
            passed++;
            for (int move = 0; move < land.told[MOVE] && standing == GOES; move++) {
                if ((terms.moves >> move & 1) != 0) {
                    tryMove(land, terms, move, from);
                }
            }
            if (standing == GOES && passed >= states) {
                standing = NONE_LEADS;
            }
        }

        private void tryMove(Land land, Terms terms, int move, int from) {
            Writ made = land.writ(MOVE, move);
            if (made == null) {
                return;
            }
            int next = made.changed(from);
            if (next == from || !made.isTrue(made.entry, from) || placeOf(next) != NONE) {
                return;
            }
            if (terms.trusted != EVERYBODY && (made.turners(from) & ~terms.trusted) != 0) {
                return;
            }
            if (!land.isStopped(next, terms)) {
                meet(next, (passed - 1) * LINK + move, terms.wish);
            }
        }

        /** Meets a state that was not yet met, or is spent. */
        void meet(int next, int linked, Writ wish) {
            if (states >= most) {
                standing = SPENT;
                return;
            }
            slots[slotOf(next)] = states + 1;
            state[states] = next;
            link[states] = linked;
            states++;
            if (wish != null && wish.isTrue(wish.entry, next)) {
                standing = FOUND;
            }
        }

        int placeOf(int sought) {
            return slots[slotOf(sought)] - 1;
        }

        /** The slot in which a state stands, or would stand. */
        private int slotOf(int sought) {
            int slot = (sought * SPREAD) >>> shift;
            // There are more slots than states, so a free one always comes.
            for (int tries = 0; tries < slots.length; tries++) {
                int place = slots[slot] - 1;
                if (place < 0 || state[place] == sought) {
                    return slot;
                }
                slot = slot + 1 < slots.length ? slot + 1 : 0;
            }
            return slot;
        }

        /** NONE, if nothing was found. */
        int rowLength() {
            if (standing != FOUND) {
                return NONE;
            }
            int moves = 0;
            // What was found was met last; links lead to earlier places.
            for (int place = states - 1; place > 0 && moves < states; place = link[place] / LINK) {
                moves++;
            }
            return moves;
        }

        int moveOfRow(int k) {
            int behind = rowLength() - k;
            if (k < 0 || behind <= 0) {
                return NONE;
            }
            int place = states - 1;
            for (int i = 1; i < behind && place > 0; i++) {
                place = link[place] / LINK;
            }
            return place > 0 ? link[place] % LINK : NONE;
        }

        long movesOfRow() {
            long moves = 0;
            int place = states - 1;
            for (int i = 0; i < states && place > 0; i++) {
                moves |= 1L << link[place] % LINK;
                place = link[place] / LINK;
            }
            return moves;
        }

        void copyFrom(Hunt other) {
            states = other.states;
            passed = other.passed;
            standing = other.standing;
            System.arraycopy(other.state, 0, state, 0, states);
            System.arraycopy(other.link, 0, link, 0, states);
            System.arraycopy(other.slots, 0, slots, 0, slots.length);
        }
    }

    /** Weighs rows of moves by their fees or their days. */
    private static final class Scales {
        final int[] weight = new int[FEW_STATES];
        final boolean[] done = new boolean[FEW_STATES];

        /** The least that a row to the wish takes; NO_ANSWER without one, TOO_MUCH if there are too many states. */
        int lightest(Land land, Terms terms, Hunt hunt, boolean byDays) {
            if (terms.gift == null || terms.wish == null) {
                return NO_ANSWER;
            }
            int best = NO_ANSWER;
            hunt.begin(terms.gift.gives, null);
            weight[0] = 0;
            done[0] = false;
            for (int passes = 0; passes < FEW_STATES; passes++) {
                int place = lightestOpen(hunt.states);
                if (place == NONE) {
                    return best;
                }
                done[place] = true;
                // Places come by their weight, so the first that is as wished is the lightest.
                if (best == NO_ANSWER && terms.wish.isTrue(terms.wish.entry, hunt.state[place])) {
                    best = weight[place];
                }
                weighMoves(land, terms, hunt, place, byDays);
                if (hunt.standing == SPENT) {
                    return TOO_MUCH;
                }
            }
            return best;
        }

        private int lightestOpen(int states) {
            int lightest = NONE;
            for (int place = 0; place < states && place < FEW_STATES; place++) {
                if (!done[place] && (lightest == NONE || weight[place] < weight[lightest])) {
                    lightest = place;
                }
            }
            return lightest;
        }

        private void weighMoves(Land land, Terms terms, Hunt hunt, int place, boolean byDays) {
            int from = hunt.state[place];
            for (int move = 0; move < land.told[MOVE] && hunt.standing != SPENT; move++) {
                Writ made = land.writ(MOVE, move);
                if (made == null) {
                    continue;
                }
                int total = weight[place] + (byDays ? made.days : made.fee);
                int known = hunt.placeOf(made.changed(from));
                if (known != NONE && weight[known] <= total) {
                    continue;
                }
                int next = land.ledTo(move, from, terms);
                if (next == NONE) {
                    continue;
                }
                if (known == NONE) {
                    known = hunt.states;
                    hunt.meet(next, 0, null);
                }
                if (known < FEW_STATES) {
                    weight[known] = total;
                    done[known] = false;
                }
            }
        }
    }
}
