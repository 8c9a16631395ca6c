/** Sentences of the document that name bounds of rolls and words (promises 24 to 31). */
public final class RollBoundsTest {
    private static final int MOVE = Suits.MOVE;
    private static final int GIFT = Suits.GIFT;
    private static final int WISH = Suits.WISH;
    private static final int STOP = Suits.STOP;
    private static final int[] BAD_ROLLS = {-1, 2, 3, 29, 30, Suits.LOW, Suits.HIGH};
    private static final int[] BAD_WHATS = {-1, 2, 3, Suits.LOW, Suits.HIGH};

    public static void main(String[] args) {
        thirtyRolls();
        rollRefused();
        twentyFourMoves();
        enterRefused();
        judgedOneAfterTheOther();
        judgedByStopsAsTheyAre();
        rollsThatAreNotThere();
        feignedFor();
        barredAndSleeping();
        riskOfMoves();
        costsOfMoves();
        costsOfAFullRoll();
        wordsOfFewestStops();
        wordsOfNoStops();
        wordsOfEightStops();
        wordsByRolls();
        wordsByThirtyRolls();
        wordsOfManyStates();
        wordsInForceStay();
        wordsRefused();
        Due.close();
    }

    private static void thirtyRolls() {
        Due.says("ROLLS 0 to 29: of a GIFT, a YEAR, with MOVES, 24 at most.");
        FeignedSuit x = thirty();
        Due.is("a roll too many", x.roll(0, 0), -1);
        Due.is("how many", x.count(4), 30);
        Due.is("roll 29 is there", x.judged(29, 0), 0);
        Due.is("roll 30 is not", x.judged(30, 0), -1);
        Due.is("an entry on roll 30", x.enter(30, 0), -1);
        Due.is("an entry on roll 29", x.enter(29, 0), 1);
        House.leavesNoTrace("a roll too many", RollBoundsTest::thirty, h -> h.roll(0, 0), -1);
    }

    private static FeignedSuit thirty() {
        FeignedSuit x = Suits.suit(new String[] {"give A"}, "have X", "A");
        for (int i = 0; i < 30; i++) {
            Due.is("how many", x.count(4), i);
            Due.is("roll", x.roll(0, 0), i);
        }
        return x;
    }

    private static void rollRefused() {
        Due.says("A ROLL: its number; NONE: there are 30, or something is not as told.");
        int[][] bad = {{2, 0}, {-1, 0}, {8, 0}, {0, -1}, {0, 3000}, {2, 3000}, {Suits.LOW, 0}, {Suits.HIGH, 0},
            {0, Suits.LOW}, {0, Suits.HIGH}};
        for (int[] b : bad) {
            House.leavesNoTrace("roll(" + b[0] + ", " + b[1] + ")", h -> h.roll(b[0], b[1]), -1);
        }
        FeignedSuit x = Suits.suit(new String[] {"give A"}, "have X", "A");
        Due.is("first year", x.roll(0, 0), 0);
        Due.is("last year", x.roll(0, 2999), 1);
        Due.is("no gift but one", x.roll(1, 0), -1);
        x.open(0, 2999, 2999);
        x.enter(0, 0);
        x.enter(1, 0);
        Due.is("may not be made in the first year", x.judged(0, 0), 0);
        Due.is("may be made in the last", x.judged(1, 0), 1);
    }

    private static void twentyFourMoves() {
        Due.says("A MOVE is entered on a ROLL: how many it has; NONE: 24, or without these.");
        FeignedSuit x = filled();
        Due.is("an entry too many", x.enter(0, 0), -1);
        Due.is("an entry too many", x.enter(0, 1), -1);
        Due.is("all of 24 may be made", x.judged(0, 0), 24);
        Due.is("the state behind them", x.judged(0, 1), Suits.X);
        Due.is("another roll has none of them", x.judged(1, 1), Suits.X);
        Due.is("another roll has room", x.enter(1, 0), 1);
        Due.is("its state", x.judged(1, 1), Suits.X | 1);
        Due.is("the full one is as it was", x.judged(0, 0), 24);
        House.leavesNoTrace("an entry too many", RollBoundsTest::filled, h -> h.enter(0, 0), -1);
        // A move that may not be made is entered all the same.
        FeignedSuit y = Suits.suit(new String[] {"need W;give A"}, "have X", "A");
        y.roll(0, 0);
        for (int i = 1; i <= 24; i++) {
            Due.is("entry " + i, y.enter(0, 0), i);
        }
        Due.is("an entry too many", y.enter(0, 0), -1);
        Due.is("the first may not be made", y.judged(0, 0), 0);
    }

    /** Two rolls: on the first, moves that give and end the same right, twelve times each. */
    private static FeignedSuit filled() {
        FeignedSuit x = Suits.suit(new String[] {"give A;fee 9999;days 999;turn 1", "end A;fee 9999;days 999;turn 2 if A"},
                "have X", "A");
        x.roll(0, 0);
        x.roll(0, 0);
        for (int i = 1; i <= 24; i++) {
            Due.is("entry " + i, x.enter(0, 1 - i % 2), i);
        }
        return x;
    }

    private static void enterRefused() {
        Due.says("A MOVE is entered on a ROLL: how many it has; NONE: 24, or without these.");
        int[][] bad = {{2, 0}, {-1, 0}, {29, 0}, {30, 0}, {0, 3}, {0, -1}, {0, 39}, {0, 40}, {2, 3}, {Suits.LOW, 0},
            {Suits.HIGH, 0}, {0, Suits.LOW}, {0, Suits.HIGH}};
        for (int[] b : bad) {
            House.leavesNoTrace("enter(" + b[0] + ", " + b[1] + ")", h -> h.enter(b[0], b[1]), -1);
        }
    }

    private static void judgedOneAfterTheOther() {
        Due.says("JUDGED: its MOVES one after the other from the first STATE of the GIFT");
        FeignedSuit x = Suits.suit(new String[] {"need A;give B", "need B;give C", "need C;end A", "give C"},
                "have A;stop D", "C");
        x.roll(0, 0);
        Due.is("none entered", x.judged(0, 0), 0);
        Due.is("the first state", x.judged(0, 1), 1);
        Due.says("what STATE there is ahead of it (or at the end).");
        int[] moves = {0, 1, 2, 1, 2};
        int[] made = {1, 2, 3, 3, 3};
        int[] state = {3, 7, 6, 6, 6};
        for (int i = 0; i < moves.length; i++) {
            Due.is("enter", x.enter(0, moves[i]), i + 1);
            Due.is("which may not be made of " + (i + 1), x.judged(0, 0), made[i]);
            Due.is("the state ahead of it", x.judged(0, 1), state[i]);
        }
        Due.is("a roll whose first move may not be made", x.roll(0, 0), 1);
        x.enter(1, 1);
        x.enter(1, 0);
        Due.is("the first", x.judged(1, 0), 0);
        Due.is("the first state, though the second could be made", x.judged(1, 1), 1);
    }

    private static void judgedByStopsAsTheyAre() {
        Due.says("the first that may not be made (by STOPS in FORCE as they are)");
        FeignedSuit x = Suits.suit(new String[] {"give B", "give C"}, "have A", "C");
        Due.is("stop", Told.tell(x, STOP, "B and C"), 0);
        Due.is("stop", Told.tell(x, STOP, "A"), 1);
        x.roll(0, 5);
        x.enter(0, 0);
        x.enter(0, 1);
        Due.is("told alone", x.judged(0, 0), 2);
        x.force(1);
        Due.is("in force", x.judged(0, 0), 1);
        Due.is("the state", x.judged(0, 1), 3);
        x.force(2);
        Due.is("of the first state, and of that behind a move", x.judged(0, 0), 0);
        x.force(0);
        Due.is("in force no more", x.judged(0, 0), 2);
        x.open(1, 6, 6);
        Due.is("shut in the year of the roll", x.judged(0, 0), 1);
        x.open(1, 5, 5);
        Due.is("open in it alone", x.judged(0, 0), 2);
    }

    private static void rollsThatAreNotThere() {
        Due.says("JUDGED what 0: which MOVE (from 0 on) may not be made (as many as it has: all may), 1: the STATE. NONE "
                + "without these.");
        House.leavesNoTrace("judged", h -> h.judged(0, 1), 6);
        refusedOfTwo("judged", FeignedSuit::judged);
        Due.says("What 0: BARRED, 1: SLEEP, as bits; NONE without these.");
        refusedOfTwo("claims", FeignedSuit::claims);
        Due.says("COSTS what 0: fees, 1: days; NONE without these.");
        refusedOfTwo("costs", FeignedSuit::costs);
        Due.says("FEIGNED: WISHES as bits; NONE without it.");
        for (int roll : BAD_ROLLS) {
            House.leavesNoTrace("feigned(" + roll + ")", h -> h.feigned(roll), -1);
        }
        Due.says("RISK of the k-th MOVE, as bits; NONE without it");
        for (int roll : BAD_ROLLS) {
            House.leavesNoTrace("risk(" + roll + ", 0)", h -> h.risk(roll, 0), -1);
        }
    }

    private interface OfTwo {
        int on(FeignedSuit x, int roll, int what);
    }

    private static void refusedOfTwo(String name, OfTwo call) {
        for (int roll : BAD_ROLLS) {
            for (int what = 0; what < 2; what++) {
                int known = what;
                House.leavesNoTrace(name + "(" + roll + ", " + what + ")", h -> call.on(h, roll, known), -1);
            }
        }
        for (int what : BAD_WHATS) {
            House.leavesNoTrace(name + "(0, " + what + ")", h -> call.on(h, 0, what), -1);
        }
    }

    private static void feignedFor() {
        Due.says("FEIGNED: WISHES that hold of that STATE and not of the first one.");
        FeignedSuit x = Suits.suit(new String[] {"end A;give B", "need W;give C"}, "have A", "B");
        Due.is("wish of both", Told.tell(x, WISH, "A or B"), 1);
        Due.is("wish of the first", Told.tell(x, WISH, "A"), 2);
        Due.is("wish of neither", Told.tell(x, WISH, "C"), 3);
        for (int i = 4; i < 16; i++) {
            Due.is("wish", Told.tell(x, WISH, i == 15 ? "not A" : "D"), i);
        }
        x.roll(0, 0);
        Due.is("an empty roll", x.feigned(0), 0);
        x.enter(0, 0);
        Due.is("wishes 0 and 15", x.feigned(0), 1 | 1 << 15);
        x.enter(0, 1);
        Due.is("a move that may not be made adds none", x.feigned(0), 1 | 1 << 15);
        House.leavesNoTrace("feigned", h -> h.feigned(0), 3);
    }

    private static void barredAndSleeping() {
        Due.says("BARRED: PEOPLE who HOLD a RIGHT that the first STATE has and that one lacks. SLEEP: PEOPLE who HOLD a RIGHT "
                + "that both have.");
        FeignedSuit x = Suits.suit(new String[] {"end AX;give D"}, "have ABX", "D");
        x.holds(0, 0);
        x.holds(1, 1);
        x.holds(2, 2);
        x.holds(3, 3);
        x.holds(23, 15);
        x.roll(0, 0);
        Due.is("nobody is barred by an empty roll", x.claims(0, 0), 0);
        Due.is("all sleep", x.claims(0, 1), 1 | 2 | 1 << 15);
        x.enter(0, 0);
        Due.is("barred", x.claims(0, 0), 1 | 1 << 15);
        Due.is("sleep", x.claims(0, 1), 2);
        x.holds(1, 15);
        Due.is("barred", x.claims(0, 0), 1 | 1 << 15);
        Due.is("the same person sleeps too", x.claims(0, 1), 1 << 15);
        x.holds(0, -1);
        x.holds(23, -1);
        Due.is("held by nobody", x.claims(0, 0), 0);
        House.leavesNoTrace("claims", h -> h.claims(0, 0), 128);
        House.leavesNoTrace("claims", h -> h.claims(0, 1), 0);
    }

    private static void riskOfMoves() {
        Due.says("RISK of the k-th MOVE, as bits; NONE without it (one that may not be made, or behind one, too).");
        FeignedSuit x = filled();
        for (int k = 0; k < 24; k++) {
            Due.is("risk(0, " + k + ")", x.risk(0, k), k % 2 == 0 ? 2 : 4);
        }
        Due.is("risk(0, 24)", x.risk(0, 24), -1);
        Due.is("risk(0, -1)", x.risk(0, -1), -1);
        Due.is("risk of an empty roll", x.risk(1, 0), -1);
        for (int k : Suits.FAR) {
            Due.is("risk(0, " + k + ")", x.risk(0, k), -1);
        }
        x.enter(1, 0);
        x.enter(1, 0);
        x.enter(1, 1);
        Due.is("one that may be made", x.risk(1, 0), 2);
        Due.is("one that may not", x.risk(1, 1), -1);
        Due.is("one behind it", x.risk(1, 2), -1);
        Due.is("none", x.risk(1, 3), -1);
        House.leavesNoTrace("risk", h -> h.risk(0, 1), 8);
        House.leavesNoTrace("risk refused", h -> h.risk(0, 2), -1);
        // By the state ahead of the move, not the first one nor the one behind it.
        Due.says("RISK of its k-th MOVE: who could TURN at it (MOVES that may be made alone).");
        FeignedSuit y = Suits.suit(new String[] {"give B", "give C;turn 1 if B;turn 2 if C;turn 3 if not B"}, "have A", "C");
        y.roll(0, 0);
        y.enter(0, 0);
        y.enter(0, 1);
        Due.is("risk behind the first move", y.risk(0, 1), 2);
        Due.is("nobody's risk", y.risk(0, 0), 0);
    }

    private static void costsOfMoves() {
        Due.says("COSTS: fees and days of its MOVES that may be made together.");
        FeignedSuit x = Suits.suit(new String[] {"give B;fee 10;days 1", "need W;give C;fee 100;days 2", "give D;fee 1000"},
                "have A", "C");
        x.roll(0, 0);
        Due.is("fees of an empty roll", x.costs(0, 0), 0);
        Due.is("days of an empty roll", x.costs(0, 1), 0);
        x.enter(0, 0);
        x.enter(0, 2);
        Due.is("fees", x.costs(0, 0), 1010);
        Due.is("days, none where none are told", x.costs(0, 1), 1);
        x.enter(0, 1);
        x.enter(0, 2);
        Due.is("fees of those that may be made alone", x.costs(0, 0), 1010);
        Due.is("days of those that may be made alone", x.costs(0, 1), 1);
        House.leavesNoTrace("costs", h -> h.costs(0, 0), 8);
        House.leavesNoTrace("costs", h -> h.costs(0, 1), 2);
    }

    private static void costsOfAFullRoll() {
        Due.says("COSTS what 0: fees, 1: days; NONE without these.");
        FeignedSuit x = filled();
        Due.is("fees of 24", x.costs(0, 0), 24 * 9999);
        Due.is("days of 24", x.costs(0, 1), 24 * 999);
        Due.is("what 2", x.costs(0, 2), -1);
        Due.is("roll 2", x.costs(2, 0), -1);
    }

    private static void wordsOfFewestStops() {
        Due.says("FEWEST STOPS; of several the least as a number; RIVALS: how many sets of so many there are.");
        FeignedSuit x = Suits.suit(new String[] {"give A", "give B", "need A or B;give C"}, "have X", "C");
        Due.is("stop", Told.tell(x, STOP, "A"), 0);
        Due.is("stop", Told.tell(x, STOP, "B"), 1);
        Due.is("two together", x.words(0, 0, 0, 0, 0), 3);
        Due.is("no rival", x.words(0, 0, 0, 0, 1), 1);
        Due.is("stop", Told.tell(x, STOP, "W"), 2);
        Due.is("one that bars nothing is left out", x.words(0, 0, 0, 0, 0), 3);
        Due.is("stop", Told.tell(x, STOP, "B and not W"), 3);
        Due.is("of 1 and 2, 1 and 8 the least", x.words(0, 0, 0, 0, 0), 3);
        Due.is("two such sets", x.words(0, 0, 0, 0, 1), 2);
        Due.is("stop", Told.tell(x, STOP, "A and not W"), 4);
        Due.is("four such sets", x.words(0, 0, 0, 0, 1), 4);
        Due.is("stop", Told.tell(x, STOP, "C"), 5);
        Due.is("one alone, though greater as a number", x.words(0, 0, 0, 0, 0), 32);
        Due.is("no rival", x.words(0, 0, 0, 0, 1), 1);
        Due.is("stop", Told.tell(x, STOP, "X"), 6);
        Due.is("stop", Told.tell(x, STOP, "C or W"), 7);
        Due.is("of three the least", x.words(0, 0, 0, 0, 0), 32);
        Due.is("three", x.words(0, 0, 0, 0, 1), 3);
    }

    private static void wordsOfNoStops() {
        Due.says("WORDS by ROLLS (bits, of those there are) what 0: the set, 1: RIVALS; -2: none; NONE without these.");
        FeignedSuit x = Suits.suit(new String[] {"need A;give B"}, "have A", "B");
        Due.is("no stop is told, and it is reached", x.words(0, 0, 0, 0, 0), -2);
        Due.is("no stop is told, and it is reached", x.words(0, 0, 0, 0, 1), -2);
        Due.is("stop", Told.tell(x, STOP, "W"), 0);
        Due.is("stop", Told.tell(x, STOP, "A and not B"), 1);
        Due.is("none bars it", x.words(0, 0, 0, 0, 0), -2);
        x.open(0, 5, 5);
        Due.is("not reached anyway: the empty set", x.words(0, 0, 0, 0, 0), 0);
        Due.is("which is one", x.words(0, 0, 0, 0, 1), 1);
        Due.is("in its year", x.words(0, 0, 5, 0, 0), -2);
        Due.is("wish", Told.tell(x, WISH, "A"), 1);
        Due.is("what is as it is no stop bars", x.words(0, 1, 0, 0, 0), -2);
        FeignedSuit y = Suits.suit(new String[0], "have A", "B");
        Due.is("no stops and no moves", y.words(0, 0, 0, 0, 0), 0);
        Due.is("no stops and no moves", y.words(0, 0, 0, 0, 1), 1);
    }

    private static void wordsOfEightStops() {
        Due.says("of all sets of STOPS told those in FORCE with which (alone) a WISH is not REACHED (3)");
        String[] moves = new String[8];
        for (int i = 0; i < 8; i++) {
            moves[i] = "give " + Suits.letter(i);
        }
        FeignedSuit x = Suits.suit(moves, "have X", "of ABCDEFGH > 0");
        for (int i = 0; i < 8; i++) {
            Due.is("with " + i, x.words(0, 0, 0, 0, 0), -2);
            Due.is("stop", Told.tell(x, STOP, "" + Suits.letter(i)), i);
        }
        Due.is("all eight", x.words(0, 0, 0, 0, 0), 255);
        Due.is("no rival", x.words(0, 0, 0, 0, 1), 1);
        Due.is("wish", Told.tell(x, WISH, "of ABCDEFGH > 4"), 1);
        Due.is("any four", x.words(0, 1, 0, 0, 0), 15);
        Due.is("sets of four of eight", x.words(0, 1, 0, 0, 1), 70);
        Due.is("wish", Told.tell(x, WISH, "H"), 2);
        Due.is("the eighth", x.words(0, 2, 0, 0, 0), 128);
    }

    private static void wordsByRolls() {
        Due.says("and each of some ROLLS (bits) can be, all its MOVES");
        FeignedSuit x = Suits.suit(new String[] {"give A", "give B", "need A or B;give C", "need W;give D"}, "have X", "C");
        Told.tell(x, STOP, "A");
        Told.tell(x, STOP, "B");
        Told.tell(x, STOP, "C and A");
        Told.tell(x, STOP, "C and B");
        Due.is("no rolls asked for", x.words(0, 0, 0, 0, 0), 3);
        Due.is("sets of two", x.words(0, 0, 0, 0, 1), 4);
        Due.is("a roll", x.roll(0, 0), 0);
        Due.is("an empty one can be", x.words(0, 0, 0, 1, 1), 4);
        x.enter(0, 0);
        Due.is("A must be left", x.words(0, 0, 0, 1, 0), 6);
        Due.is("2 and 4, 4 and 8", x.words(0, 0, 0, 1, 1), 2);
        Due.is("a roll that is not asked for", x.words(0, 0, 0, 0, 0), 3);
        Due.is("a roll", x.roll(0, 0), 1);
        x.enter(1, 1);
        Due.is("B must be left", x.words(0, 0, 0, 2, 0), 9);
        Due.is("both", x.words(0, 0, 0, 3, 0), 12);
        Due.is("both", x.words(0, 0, 0, 3, 1), 1);
        x.enter(1, 2);
        Due.is("what is wished itself", x.words(0, 0, 0, 2, 0), -2);
        Due.is("a roll", x.roll(0, 0), 2);
        x.enter(2, 0);
        x.enter(2, 3);
        Due.is("its first move can be and its last can't", x.words(0, 0, 0, 4, 0), -2);
        Due.is("and none counts those", x.words(0, 0, 0, 4, 1), -2);
        // A roll has a gift and a year of its own.
        Due.is("gift", Told.tell(x, GIFT, "have W"), 1);
        Due.is("a roll", x.roll(1, 0), 3);
        x.enter(3, 3);
        Due.is("by its own gift it can be", x.words(0, 0, 0, 8, 0), 3);
        x.open(3, 5, 9);
        Due.is("not in its own year", x.words(0, 0, 5, 8, 0), -2);
        Due.is("a roll", x.roll(1, 9), 4);
        x.enter(4, 3);
        Due.is("in its own year", x.words(0, 0, 0, 16, 0), 3);
    }

    private static void wordsByThirtyRolls() {
        Due.says("WORDS by ROLLS (bits, of those there are)");
        FeignedSuit x = Suits.suit(new String[] {"give A", "give B"}, "have X", "B");
        Told.tell(x, STOP, "A or B");
        Told.tell(x, STOP, "B");
        for (int rolls = 0; rolls < 30; rolls++) {
            Due.is("all of " + rolls, x.words(0, 0, 0, (1 << rolls) - 1, 0), 1);
            Due.is("one more than " + rolls, x.words(0, 0, 0, 1 << rolls, 0), -1);
            Due.is("roll", x.roll(0, 0), rolls);
        }
        Due.is("all thirty", x.words(0, 0, 0, (1 << 30) - 1, 0), 1);
        Due.is("bit 30", x.words(0, 0, 0, 1 << 30, 0), -1);
        Due.is("bit 31", x.words(0, 0, 0, Suits.LOW, 0), -1);
        Due.is("all bits", x.words(0, 0, 0, -1, 0), -1);
        Due.is("all but bit 31", x.words(0, 0, 0, Suits.HIGH, 0), -1);
        x.enter(29, 0);
        Due.is("the last roll must be left", x.words(0, 0, 0, 1 << 29, 0), 2);
        Due.is("all others", x.words(0, 0, 0, (1 << 29) - 1, 0), 1);
        x.enter(0, 0);
        Due.is("the first roll must be left", x.words(0, 0, 0, 1, 0), 2);
    }

    private static void wordsOfManyStates() {
        Due.says("a WISH is not REACHED (3) by a GIFT in a YEAR");
        FeignedSuit x = Suits.chain(511, "W", "");
        Due.is("stop", Told.tell(x, STOP, Suits.numberInChain(501, 511)), 0);
        Due.is("with it 501 states: spent", x.words(0, 0, 0, 0, 0), -2);
        Due.is("stop", Told.tell(x, STOP, Suits.numberInChain(500, 511)), 1);
        Due.is("with it 500 states", x.words(0, 0, 0, 0, 0), 2);
        Due.is("alone", x.words(0, 0, 0, 0, 1), 1);
        Due.is("what is in force stays none", x.reached(0, 0, 0), 4);
    }

    private static void wordsInForceStay() {
        Due.says("(What is in FORCE stays.)");
        House.leavesNoTrace("words", h -> h.words(0, 0, 7, 0, 0), -2);
        FeignedSuit x = Suits.suit(new String[] {"give A", "give B"}, "have X", "B");
        Told.tell(x, STOP, "A");
        Told.tell(x, STOP, "B");
        x.roll(0, 0);
        x.enter(0, 0);
        for (int force = 0; force < 4; force++) {
            x.force(force);
            Due.is("the set, whatever is in force", x.words(0, 0, 0, 1, 0), 2);
            Due.is("rivals, whatever is in force", x.words(0, 0, 0, 1, 1), 1);
            Due.is("refused", x.words(0, 0, 0, 2, 0), -1);
            Due.is("what is in force", x.force(force), force);
            Due.is("a move by it", x.may(0, 0, 0, 0), (force & 1) == 0 ? 1 : 0);
            Due.is("a roll by it", x.judged(0, 0), (force & 1) == 0 ? 1 : 0);
        }
    }

    private static void wordsRefused() {
        Due.says("-2: none; NONE without these.");
        int[][] bad = {{2, 0, 0, 0, 0}, {-1, 0, 0, 0, 0}, {8, 0, 0, 0, 0}, {0, 2, 0, 0, 0}, {0, -1, 0, 0, 0},
            {0, 16, 0, 0, 0}, {0, 0, -1, 0, 0}, {0, 0, 3000, 0, 0}, {0, 0, 0, -1, 0}, {0, 0, 0, 4, 0}, {0, 0, 0, 5, 1},
            {0, 0, 0, 0, -1}, {0, 0, 0, 0, 2}, {Suits.LOW, 0, 0, 0, 0}, {Suits.HIGH, 0, 0, 0, 0},
            {0, Suits.LOW, 0, 0, 0}, {0, Suits.HIGH, 0, 0, 0}, {0, 0, Suits.LOW, 0, 0}, {0, 0, Suits.HIGH, 0, 0},
            {0, 0, 0, Suits.LOW, 0}, {0, 0, 0, Suits.HIGH, 0}, {0, 0, 0, 0, Suits.LOW}, {0, 0, 0, 0, Suits.HIGH}};
        for (int[] b : bad) {
            House.leavesNoTrace("words(" + b[0] + ", " + b[1] + ", " + b[2] + ", " + b[3] + ", " + b[4] + ")",
                    h -> h.words(b[0], b[1], b[2], b[3], b[4]), -1);
        }
    }
}
