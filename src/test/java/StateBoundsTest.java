/** Sentences of the document that name bounds of states, people, years and stops (promises 1 and 5 to 12). */
public final class StateBoundsTest {
    private static final int MOVE = Suits.MOVE;
    private static final int GIFT = Suits.GIFT;
    private static final int WISH = Suits.WISH;
    private static final int STOP = Suits.STOP;

    public static void main(String[] args) {
        newObject();
        states();
        years();
        openAtFirst();
        openFromTo();
        openRefused();
        forceAtFirst();
        forceOfTold();
        forceRefused();
        holdsBounds();
        holdsRefused();
        firstOfGifts();
        wishedRefused();
        mayByEachCondition();
        mayByStops();
        mayRefused();
        afterMoves();
        turnedBy();
        questionsLeaveNoTrace();
        Due.close();
    }

    private static void newObject() {
        Due.says("No texts, no ROLLS, no SEARCH.");
        FeignedSuit other = House.furnished();
        FeignedSuit x = new FeignedSuit();
        for (int what = 0; what <= 5; what++) {
            Due.is("count(" + what + ") of a new one beside another", x.count(what), 0);
        }
        Due.is("moves of the other", other.count(0), 3);
        Due.is("no gift", x.first(0), -1);
        Due.is("no wish", x.wished(0, 0), -1);
        Due.is("no move", x.after(0, 0), -1);
        Due.is("no move", x.turned(0, 0), -1);
        Due.is("no move", x.open(0, 0, 0), false);
        Due.is("nothing that may be made", x.may(0, 0, 0, 0), -1);
        Due.is("no stop", x.force(1), -1);
        Due.is("none in force", x.force(0), 0);
        Due.is("no search", x.search(0, 0, 0, 0), false);
        Due.is("no search", x.go(1), -1);
        for (int what = 0; what <= 3; what++) {
            Due.is("sought(" + what + ")", x.sought(what), what == 3 ? -1 : 0);
        }
        Due.is("no state met", x.met(0), -1);
        Due.is("no row", x.row(0), -1);
        Due.is("reached", x.reached(0, 0, 0), -1);
        Due.is("fewest", x.fewest(0, 0, 0, 0), -1);
        Due.is("least", x.least(0, 0, 0, 0), -1);
        Due.is("safe", x.safe(0, 0, 0, 0), -1);
        Due.is("keys", x.keys(0, 0, 0), -1);
        Due.is("last", x.last(0, 0, 0, 0), -1);
        Due.is("words", x.words(0, 0, 0, 0, 0), -1);
        Due.is("no gift for a roll", x.roll(0, 0), -1);
        Due.is("no roll", x.enter(0, 0), -1);
        Due.is("no roll", x.judged(0, 0), -1);
        Due.is("no roll", x.feigned(0), -1);
        Due.is("no roll", x.claims(0, 0), -1);
        Due.is("no roll", x.risk(0, 0), -1);
        Due.is("no roll", x.costs(0, 0), -1);
        for (int k = 0; k < 4; k++) {
            Due.is("back(" + k + ")", x.back(k), -1);
        }
        for (int right = 0; right < 24; right++) {
            Due.is("nobody holds " + right, x.holds(right, -1), -1);
        }
        Due.is("an empty mark", x.mark(0), 0);
        Due.is("back to it", x.back(0), 0);
        Due.says("NONE = -1");
        Due.is("NONE", FeignedSuit.NONE, -1);
    }

    private static void states() {
        Due.says("A STATE: a set of RIGHTS (0 to 16777215).");
        FeignedSuit x = Suits.suit(new String[] {"give A", "end X"}, "have B", "not A");
        int[] inside = {0, 1, 16777214, 16777215};
        int[] outside = {-1, -2, 16777216, 16777217, 33554431, 1 << 30, Suits.LOW, Suits.HIGH};
        for (int state : inside) {
            Due.is("wished of " + state, x.wished(0, state), (state & 1) == 0 ? 1 : 0);
            Due.is("may from " + state, x.may(0, 0, 0, state), (state & 1) == 0 ? 1 : 0);
            Due.is("after from " + state, x.after(0, state), state | 1);
            Due.is("after from " + state, x.after(1, state), state & 8388607);
            Due.is("turned from " + state, x.turned(0, state), 0);
            Due.is("search from " + state, x.search(0, 0, 0, state), true);
            Due.is("met", x.met(0), state);
        }
        for (int state : outside) {
            Due.is("wished of " + state, x.wished(0, state), -1);
            Due.is("may from " + state, x.may(0, 0, 0, state), -1);
            Due.is("after from " + state, x.after(0, state), -1);
            Due.is("turned from " + state, x.turned(0, state), -1);
            Due.is("search from " + state, x.search(0, 0, 0, state), state == -1);
            Due.is("the search that -1 began from the first state of the gift", x.met(0), 2);
        }
    }

    private static void years() {
        Due.says("YEARS 0 to 2999.");
        FeignedSuit x = Suits.suit(new String[] {"give A"}, "have B", "A");
        for (int year : new int[] {0, 1, 2998, 2999}) {
            Due.is("may in " + year, x.may(0, year, 0, 0), 1);
            Due.is("search in " + year, x.search(0, 0, year, 0), true);
            Due.is("reached in " + year, x.reached(0, 0, year), 2);
            Due.is("fewest in " + year, x.fewest(0, 0, year, 0), 0);
            Due.is("least in " + year, x.least(0, 0, year, 0), 0);
            Due.is("safe in " + year, x.safe(0, 0, year, 0), 1);
            Due.is("keys in " + year, x.keys(0, 0, year), 1);
            Due.is("last in " + year, x.last(0, 0, year, year), -2);
            Due.is("words in " + year, x.words(0, 0, year, 0, 0), -2);
            Due.is("roll in " + year, x.roll(0, year) >= 0, true);
            Due.is("open in " + year, x.open(0, year, year), true);
            Due.is("open in all", x.open(0, 0, 2999), true);
        }
        int rolls = x.count(4);
        for (int year : new int[] {-1, -2, 3000, 3001, Suits.LOW, Suits.HIGH}) {
            Due.is("may in " + year, x.may(0, year, 0, 0), -1);
            Due.is("search in " + year, x.search(0, 0, year, 0), false);
            Due.is("reached in " + year, x.reached(0, 0, year), -1);
            Due.is("fewest in " + year, x.fewest(0, 0, year, 0), -1);
            Due.is("least in " + year, x.least(0, 0, year, 0), -1);
            Due.is("safe in " + year, x.safe(0, 0, year, 0), -1);
            Due.is("keys in " + year, x.keys(0, 0, year), -1);
            Due.is("last in " + year, x.last(0, 0, year, year), -1);
            Due.is("words in " + year, x.words(0, 0, year, 0, 0), -1);
            Due.is("roll in " + year, x.roll(0, year), -1);
            Due.is("open in " + year, x.open(0, year, year), false);
        }
        Due.is("rolls then", x.count(4), rolls);
    }

    private static void openAtFirst() {
        Due.says("A MOVE is OPEN in YEARS from one to another one (0 to 2999 at first).");
        FeignedSuit x = Suits.suit(new String[] {"give A", "give B"}, "have X", "A");
        for (int move = 0; move < 2; move++) {
            Due.is("in the first year", x.may(0, 0, move, 0), 1);
            Due.is("in the last one", x.may(0, 2999, move, 0), 1);
        }
        x.mark(0);
        Due.is("a move", Told.tell(x, MOVE, "give C"), 2);
        x.open(2, 7, 7);
        x.back(0);
        Due.is("another move in its place", Told.tell(x, MOVE, "give D"), 2);
        Due.is("it is open in the first year", x.may(0, 0, 2, 0), 1);
        Due.is("and in the last one", x.may(0, 2999, 2, 0), 1);
    }

    private static void openFromTo() {
        Due.says("A MOVE is OPEN from a YEAR to another one, not ahead of it: true");
        int[][] spans = {{0, 0}, {0, 1}, {0, 2999}, {1, 1}, {100, 200}, {2998, 2999}, {2999, 2999}};
        FeignedSuit x = Suits.suit(new String[] {"give A", "give B"}, "have X", "A");
        for (int[] span : spans) {
            Due.is("open", x.open(0, span[0], span[1]), true);
            for (int year : new int[] {0, 1, 99, 100, 101, 199, 200, 201, 2997, 2998, 2999}) {
                boolean in = span[0] <= year && year <= span[1];
                Due.is(span[0] + " to " + span[1] + ", in " + year, x.may(0, year, 0, 0), in ? 1 : 0);
                Due.is("reached in " + year, x.reached(0, 0, year), in ? 2 : 3);
            }
            Due.is("the other move stays open", x.may(0, 0, 1, 0), 1);
            Due.is("the other move stays open", x.may(0, 2999, 1, 0), 1);
        }
    }

    private static void openRefused() {
        Due.says("false, and nothing happens, for others.");
        int[][] bad = {{2, 6, 5}, {2, 2999, 0}, {3, 0, 1}, {-1, 0, 1}, {40, 0, 1}, {2, -1, 5}, {2, 5, 3000}, {2, -1, -1},
            {2, 3000, 3000}, {0, 1, 0}, {2, Suits.LOW, Suits.HIGH}, {Suits.LOW, 0, 1}, {Suits.HIGH, 0, 1},
            {2, 0, Suits.LOW}, {2, Suits.HIGH, Suits.HIGH}};
        for (int[] b : bad) {
            House.leavesNoTrace("open(" + b[0] + ", " + b[1] + ", " + b[2] + ")",
                    h -> h.open(b[0], b[1], b[2]) ? 1 : 0, 0);
        }
    }

    private static void forceAtFirst() {
        Due.says("STOPS in FORCE: a set of them (none at first).");
        FeignedSuit x = Suits.suit(new String[] {"give A", "give B"}, "have X", "A");
        Due.is("none", x.force(0), 0);
        Due.is("a stop", Told.tell(x, STOP, "A"), 0);
        Due.is("another stop", Told.tell(x, STOP, "B"), 1);
        Due.is("told is not in force", x.may(0, 0, 0, 0), 1);
        Due.is("told is not in force", x.may(0, 0, 1, 0), 1);
        Due.is("none still", x.force(0), 0);
    }

    private static void forceOfTold() {
        Due.says("STOPS in FORCE become these (bits): which they were");
        FeignedSuit x = Suits.suit(new String[] {"give A"}, "have X", "A");
        for (int stops = 0; stops < 8; stops++) {
            Due.is("the greatest set of " + stops, x.force((1 << stops) - 1), 0);
            Due.is("which they were", x.force(0), (1 << stops) - 1);
            Due.is("a set beyond " + stops, x.force(1 << stops), -1);
            Due.is("stop " + stops, Told.tell(x, STOP, stops == 7 ? "A" : "B"), stops);
        }
        Due.is("all eight", x.force(255), 0);
        Due.is("the eighth bars", x.may(0, 0, 0, 0), 0);
        Due.is("all but the eighth", x.force(127), 255);
        Due.is("bar nothing", x.may(0, 0, 0, 0), 1);
        Due.is("the eighth alone", x.force(128), 127);
        Due.is("bars", x.may(0, 0, 0, 0), 0);
        Due.is("none", x.force(0), 128);
        Due.is("nothing bars", x.may(0, 0, 0, 0), 1);
    }

    private static void forceRefused() {
        Due.says("NONE, and nothing happens, for others.");
        for (int set : new int[] {4, 5, 6, 7, 8, 128, 255, 256, 257, 1 << 30, -1, -2, -256}) {
            House.leavesNoTrace("force(" + set + ")", h -> h.force(set), -1);
        }
        for (int set : Suits.FAR) {
            House.leavesNoTrace("force(" + set + ")", h -> h.force(set), -1);
        }
        FeignedSuit x = new FeignedSuit();
        for (int i = 0; i < 8; i++) {
            Told.tell(x, STOP, "A");
        }
        x.force(129);
        for (int set : new int[] {256, 511, -1, 1 << 8, Suits.LOW, Suits.HIGH}) {
            Due.is("force(" + set + ") of eight", x.force(set), -1);
        }
        Due.is("which they were", x.force(0), 129);
    }

    private static void holdsBounds() {
        Due.says("A RIGHT (0 to 23) is HELD by a PERSON (NONE: by nobody): who HELD it (NONE)");
        FeignedSuit x = new FeignedSuit();
        for (int right : new int[] {0, 1, 22, 23}) {
            Due.is("nobody at first", x.holds(right, 0), -1);
            Due.is("0 did", x.holds(right, 15), 0);
            Due.is("15 did", x.holds(right, 15), 15);
            Due.is("15 did", x.holds(right, -1), 15);
            Due.is("nobody did", x.holds(right, -1), -1);
            Due.is("nobody did", x.holds(right, right % 16), -1);
        }
        Due.is("each has its own", x.holds(0, -1), 0);
        Due.is("each has its own", x.holds(1, -1), 1);
        Due.is("each has its own", x.holds(22, -1), 6);
        Due.is("each has its own", x.holds(23, -1), 7);
        Due.says("PEOPLE 0 to 15; a RIGHT may be HELD by a PERSON.");
        Due.is("move", Told.tell(x, MOVE, "end AX"), 0);
        Due.is("gift", Told.tell(x, GIFT, "have AX"), 0);
        x.roll(0, 0);
        x.enter(0, 0);
        x.holds(0, 0);
        x.holds(23, 15);
        Due.is("people 0 and 15 are barred", x.claims(0, 0), 1 | 1 << 15);
        x.holds(23, 0);
        Due.is("one person may hold two", x.claims(0, 0), 1);
        x.holds(0, -1);
        x.holds(23, -1);
        Due.is("nobody", x.claims(0, 0), 0);
    }

    private static void holdsRefused() {
        Due.says("-2, and nothing happens, for others.");
        int[][] bad = {{-1, 0}, {24, 0}, {0, 16}, {0, -2}, {23, 16}, {23, -2}, {-1, -1}, {24, -1}, {-1, 16}, {25, 3},
            {0, 17}, {Suits.LOW, 0}, {Suits.HIGH, 0}, {0, Suits.LOW}, {0, Suits.HIGH}, {Suits.LOW, Suits.LOW}};
        for (int[] b : bad) {
            House.leavesNoTrace("holds(" + b[0] + ", " + b[1] + ")", h -> h.holds(b[0], b[1]), -2);
        }
    }

    private static void firstOfGifts() {
        Due.says("The first STATE of a GIFT: all RIGHTS of its have CLAUSES.");
        FeignedSuit x = new FeignedSuit();
        Due.is("gift", Told.tell(x, GIFT, "stop A"), 0);
        Due.is("no right", x.first(0), 0);
        Due.is("gift", Told.tell(x, GIFT, "have A;stop B;have X;have A"), 1);
        Due.is("of all clauses", x.first(1), 1 | Suits.X);
        Due.is("gift", Told.tell(x, GIFT, "stop A;have A"), 2);
        Due.is("though its own stop holds of it", x.first(2), 1);
        Due.says("The first STATE of a GIFT; NONE without it.");
        for (int gift : new int[] {-1, 3, 7, 8, Suits.LOW, Suits.HIGH}) {
            Due.is("first(" + gift + ")", x.first(gift), -1);
        }
        for (int i = 3; i < 8; i++) {
            Due.is("first(" + i + ") ahead of it", x.first(i), -1);
            Due.is("gift", Told.tell(x, GIFT, "have " + Suits.letter(i)), i);
            Due.is("first(" + i + ")", x.first(i), 1 << i);
        }
        Due.is("first(8)", x.first(8), -1);
    }

    private static void wishedRefused() {
        Due.says("1 if a WISH holds of a STATE, 0 if not; NONE without these.");
        FeignedSuit x = new FeignedSuit();
        for (int i = 0; i < 16; i++) {
            Due.is("wished(" + i + ") ahead of it", x.wished(i, 0), -1);
            Due.is("wish", Told.tell(x, WISH, "" + Suits.letter(i)), i);
            Due.is("wished(" + i + ")", x.wished(i, 1 << i), 1);
            Due.is("wished(" + i + ")", x.wished(i, 65535 - (1 << i)), 0);
        }
        for (int wish : new int[] {-1, 16, 17, Suits.LOW, Suits.HIGH}) {
            Due.is("wished(" + wish + ")", x.wished(wish, 0), -1);
        }
        Due.is("neither", x.wished(16, -1), -1);
    }

    private static void mayByEachCondition() {
        Due.says("It MAY be made from a STATE, by a GIFT, in a YEAR: it is OPEN, all its need TESTS hold of the STATE, "
                + "AFTER it is another STATE, and of that no stop of the GIFT, nor a STOP in FORCE, holds.");
        FeignedSuit x = Suits.suit(new String[] {"need A;need B;need C;give D", "give D", "need not D;give D",
            "end A;give A", "days 1", "need D;give E"}, "have A", "A");
        for (int state = 0; state < 16; state++) {
            boolean needs = (state & 7) == 7;
            boolean other = (state & 8) == 0;
            Due.is("three needs from " + state, x.may(0, 0, 0, state), needs && other ? 1 : 0);
            Due.is("no need from " + state, x.may(0, 0, 1, state), other ? 1 : 0);
            Due.is("a need of the state ahead from " + state, x.may(0, 0, 2, state), other ? 1 : 0);
            Due.is("what is ended and given from " + state, x.may(0, 0, 3, state), (state & 1) == 0 ? 1 : 0);
            Due.is("a move that changes nothing from " + state, x.may(0, 0, 4, state), 0);
            Due.is("a need that comes with another move from " + state, x.may(0, 0, 5, state), other ? 0 : 1);
        }
        x.open(1, 10, 20);
        Due.is("ahead of its years", x.may(0, 9, 1, 0), 0);
        Due.is("in its first", x.may(0, 10, 1, 0), 1);
        Due.is("in its last", x.may(0, 20, 1, 0), 1);
        Due.is("behind its years", x.may(0, 21, 1, 0), 0);
        Due.is("and the same state in them", x.may(0, 10, 1, 8), 0);
    }

    private static void mayByStops() {
        Due.says("and of that no stop of the GIFT, nor a STOP in FORCE, holds.");
        FeignedSuit x = Suits.suit(new String[] {"give B", "end A"}, "have A;stop A and B;stop C and B", "A");
        Due.is("a gift without stops", Told.tell(x, GIFT, "have A"), 1);
        Due.is("stop", Told.tell(x, STOP, "D"), 0);
        Due.is("stop", Told.tell(x, STOP, "E and B"), 1);
        Due.is("no stop holds behind it", x.may(0, 0, 0, 0), 1);
        Due.is("its first stop holds behind it", x.may(0, 0, 0, 1), 0);
        Due.is("its second stop holds behind it", x.may(0, 0, 0, 4), 0);
        Due.is("by another gift", x.may(1, 0, 0, 1), 1);
        Due.is("by another gift", x.may(1, 0, 0, 4), 1);
        Due.is("its stop holds ahead of it alone", x.may(0, 0, 1, 3), 1);
        Due.is("its stop holds ahead of it and behind", x.may(0, 0, 1, 7), 0);
        Due.is("stops told alone", x.may(1, 0, 0, 16), 1);
        x.force(2);
        Due.is("the one in force holds behind it", x.may(1, 0, 0, 16), 0);
        Due.is("the one not in force holds", x.may(1, 0, 0, 8), 1);
        x.force(1);
        Due.is("the one in force holds ahead of it and behind", x.may(1, 0, 0, 8), 0);
        Due.is("the one not in force holds", x.may(1, 0, 0, 16), 1);
        x.force(3);
        Due.is("both", x.may(1, 0, 0, 24), 0);
        Due.is("neither holds", x.may(1, 0, 0, 1), 1);
        x.force(0);
        Due.is("none in force", x.may(1, 0, 0, 24), 1);
    }

    private static void mayRefused() {
        Due.says("1 if a MOVE MAY be made, 0 if not; NONE without these.");
        FeignedSuit x = Suits.suit(new String[] {"give A"}, "have X", "A");
        Due.is("all there", x.may(0, 0, 0, 0), 1);
        int[][] bad = {{1, 0, 0, 0}, {-1, 0, 0, 0}, {0, -1, 0, 0}, {0, 3000, 0, 0}, {0, 0, 1, 0}, {0, 0, -1, 0},
            {0, 0, 0, -1}, {0, 0, 0, 16777216}, {8, 0, 0, 0}, {0, 0, 40, 0}};
        for (int[] b : bad) {
            Due.is("may(" + b[0] + ", " + b[1] + ", " + b[2] + ", " + b[3] + ")", x.may(b[0], b[1], b[2], b[3]), -1);
        }
        for (int far : Suits.FAR) {
            Due.is("may(" + far + ", ..)", x.may(far, 0, 0, 0), -1);
            Due.is("may(0, " + far + ", ..)", x.may(0, far, 0, 0), -1);
            Due.is("may(0, 0, " + far + ", 0)", x.may(0, 0, far, 0), -1);
            Due.is("may(0, 0, 0, " + far + ")", x.may(0, 0, 0, far), -1);
        }
        x.open(0, 5, 5);
        Due.is("none of these, though it may not be made", x.may(0, 3000, 0, 0), -1);
        Due.is("the last move", lastMove(), 1);
    }

    private static int lastMove() {
        FeignedSuit x = new FeignedSuit();
        Told.tell(x, GIFT, "have X");
        for (int i = 0; i < 40; i++) {
            Told.tell(x, MOVE, "give " + Suits.letter(i % 20));
        }
        Due.is("move 40", x.may(0, 0, 40, 0), -1);
        return x.may(0, 0, 39, 0);
    }

    private static void afterMoves() {
        Due.says("AFTER a MOVE from a STATE: that without the RIGHTS of its end CLAUSES, and then with those of its give "
                + "CLAUSES.");
        FeignedSuit x = Suits.suit(new String[] {"end AB;give BC;end X;give D", "give B;end AB",
            "end ABCDEFGHIJKLMNOPQRSTUVWX", "give ABCDEFGHIJKLMNOPQRSTUVWX", "fee 1"}, "have A", "A");
        Due.is("from nothing", x.after(0, 0), 2 | 4 | 8);
        Due.is("from all", x.after(0, Suits.ALL_RIGHTS), 8388606);
        Due.is("given though ended, in whatever order", x.after(1, 3), 2);
        Due.is("all ended", x.after(2, Suits.ALL_RIGHTS), 0);
        Due.is("all given", x.after(3, 0), Suits.ALL_RIGHTS);
        Due.is("nothing", x.after(4, 5), 5);
        Due.says("The STATE AFTER a MOVE (whether it MAY be made or not); NONE without these.");
        Due.is("a move", Told.tell(x, MOVE, "need A and not A;give C"), 5);
        Due.is("one that never may be made", x.after(5, 1), 5);
        x.open(5, 3, 3);
        Due.is("one that is shut in most years", x.after(5, 1), 5);
        Due.is("after(6, 0)", x.after(6, 0), -1);
        Due.is("after(-1, 0)", x.after(-1, 0), -1);
        for (int far : Suits.FAR) {
            Due.is("after(" + far + ", 0)", x.after(far, 0), -1);
            Due.is("after(0, " + far + ")", x.after(0, far), -1);
        }
    }

    private static void turnedBy() {
        Due.says("Who could TURN at a MOVE from a STATE: PEOPLE of its turn CLAUSES without a TEST, or whose TEST holds of "
                + "the STATE ahead of it.");
        FeignedSuit x = Suits.suit(new String[] {"need X;give B;turn 0;turn 15 if A;turn 3 if B;turn 3 if C;turn 4 if A;turn 4",
            "give A"}, "have A", "A");
        Due.is("from nothing", x.turned(0, 0), 1 | 16);
        Due.is("by a test", x.turned(0, 1), 1 | 16 | 1 << 15);
        Due.is("by one of two tests", x.turned(0, 2), 1 | 8 | 16);
        Due.is("by the other", x.turned(0, 4), 1 | 8 | 16);
        Due.is("by both", x.turned(0, 6), 1 | 8 | 16);
        Due.is("nobody", x.turned(1, Suits.ALL_RIGHTS), 0);
        Due.says("Who could TURN, as bits; NONE without these.");
        Due.is("turned(2, 0)", x.turned(2, 0), -1);
        Due.is("turned(-1, 0)", x.turned(-1, 0), -1);
        for (int far : Suits.FAR) {
            Due.is("turned(" + far + ", 0)", x.turned(far, 0), -1);
            Due.is("turned(0, " + far + ")", x.turned(0, far), -1);
        }
    }

    /** Nothing that only asks changes anything, answered or refused. */
    private static void questionsLeaveNoTrace() {
        Due.says("Nothing is promised beyond the answers and state changes described above");
        House.leavesNoTrace("first", h -> h.first(1), 2 | Suits.X);
        House.leavesNoTrace("first refused", h -> h.first(2), -1);
        House.leavesNoTrace("wished", h -> h.wished(0, 4), 1);
        House.leavesNoTrace("wished refused", h -> h.wished(2, 4), -1);
        House.leavesNoTrace("may", h -> h.may(1, 2999, 0, 1), 1);
        House.leavesNoTrace("may refused", h -> h.may(2, 0, 0, 1), -1);
        House.leavesNoTrace("after", h -> h.after(1, 7), 6);
        House.leavesNoTrace("turned", h -> h.turned(1, 7), 8);
        House.leavesNoTrace("sought", h -> h.sought(1), 3);
        House.leavesNoTrace("row", h -> h.row(0), -1);
        House.leavesNoTrace("met", h -> h.met(1), 3);
        House.leavesNoTrace("count", h -> h.count(5), 7);
    }
}
