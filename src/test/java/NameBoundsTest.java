/** Sentences of the document that name bounds of fewest, least, safe, keys and last (promises 19 to 23). */
public final class NameBoundsTest {
    private static final int MOVE = Suits.MOVE;
    private static final int GIFT = Suits.GIFT;
    private static final int WISH = Suits.WISH;
    private static final int STOP = Suits.STOP;

    public static void main(String[] args) {
        tenNames();
        elevenNames();
        setsThatSuffice();
        leastSetOfSeveral();
        spentDoesNotSuffice();
        fewestRefused();
        leastOfAllRows();
        leastOfFiveHundred();
        leastRefused();
        safeRows();
        safeOfFiveHundred();
        safeRefused();
        keysEachAlone();
        keysOfManyStates();
        keysRefused();
        lastOfYears();
        lastHundredYears();
        lastRefused();
        Due.close();
    }

    private static void tenNames() {
        Due.says("NAMES: PEOPLE who lend in some MOVE (10 at most of them; else told so).");
        String[] moves = new String[10];
        for (int i = 0; i < 10; i++) {
            moves[i] = (i == 0 ? "" : "need " + Suits.letter(i - 1) + ";") + "give " + Suits.letter(i) + ";lend " + (i + 6);
        }
        FeignedSuit x = Suits.suit(moves, "have X", "J");
        Due.is("all ten are needed", x.fewest(0, 0, 0, 0), 10);
        Due.is("people 6 to 15", x.fewest(0, 0, 0, 1), 65535 - 63);
        Due.is("wish", Told.tell(x, WISH, "I"), 1);
        Due.is("nine of ten", x.fewest(0, 1, 0, 0), 9);
        Due.is("people 6 to 14", x.fewest(0, 1, 0, 1), 32767 - 63);
        Due.is("the same person again is no eleventh", Told.tell(x, MOVE, "give W;lend 6;lend 15"), 10);
        Due.is("all ten", x.fewest(0, 0, 0, 0), 10);
    }

    private static void elevenNames() {
        Due.says("-2: none suffices; -3: more than 10 lend; NONE without these.");
        FeignedSuit x = Suits.suit(new String[] {"give A", "lend 0;lend 1;lend 2;lend 3;lend 4;lend 5;lend 6;lend 7;lend 8",
            "lend 15"}, "have X", "A");
        Due.is("ten lend, and none is needed", x.fewest(0, 0, 0, 0), 0);
        Due.is("the empty set", x.fewest(0, 0, 0, 1), 0);
        Due.is("an eleventh", Told.tell(x, MOVE, "give B;lend 9"), 3);
        Due.is("how many", x.fewest(0, 0, 0, 0), -3);
        Due.is("the set", x.fewest(0, 0, 0, 1), -3);
        x.open(3, 50, 60);
        Due.is("who lends in a move that is shut lends in some move", x.fewest(0, 0, 0, 0), -3);
        Due.is("wish", Told.tell(x, WISH, "W"), 1);
        Due.is("though none suffices", x.fewest(0, 1, 0, 0), -3);
        Due.is("without these", x.fewest(0, 2, 0, 0), -1);
        Due.is("without these", x.fewest(0, 0, 0, 2), -1);
        Due.is("all sixteen", Told.tell(x, MOVE, "lend 10;lend 11;lend 12;lend 13;lend 14"), 4);
        Due.is("how many", x.fewest(0, 0, 0, 0), -3);
    }

    private static void setsThatSuffice() {
        Due.says("A set of these suffices if the WISH is REACHED by MOVES whose PEOPLE are all in it.");
        FeignedSuit x = Suits.suit(new String[] {"give A;lend 3;lend 5", "need A;give B;lend 5", "give C;lend 1"},
                "have X", "B");
        Due.is("both of a move that has two", x.fewest(0, 0, 0, 0), 2);
        Due.is("the set", x.fewest(0, 0, 0, 1), 8 | 32);
        Due.is("a way by another one", Told.tell(x, MOVE, "need C;give B;lend 1"), 3);
        Due.is("fewer people though not fewer moves", x.fewest(0, 0, 0, 0), 1);
        Due.is("the set", x.fewest(0, 0, 0, 1), 2);
        Due.is("a way without names", Told.tell(x, MOVE, "need C;give D;lend 7"), 4);
        Due.is("wish", Told.tell(x, WISH, "X"), 1);
        Due.is("as it is", x.fewest(0, 1, 0, 0), 0);
        Due.is("as it is", x.fewest(0, 1, 0, 1), 0);
        Due.is("wish", Told.tell(x, WISH, "W"), 2);
        Due.is("none suffices", x.fewest(0, 2, 0, 0), -2);
        Due.is("none suffices", x.fewest(0, 2, 0, 1), -2);
        Due.is("nobody lends", Suits.suit(new String[] {"give A"}, "have X", "A").fewest(0, 0, 0, 1), 0);
        Due.is("nobody lends, and none suffices", Suits.suit(new String[] {"give A"}, "have X", "B").fewest(0, 0, 0, 1), -2);
        x.open(3, 10, 20);
        Due.is("in its years", x.fewest(0, 0, 10, 1), 2);
        Due.is("in its years", x.fewest(0, 0, 20, 1), 2);
        Due.is("ahead of them", x.fewest(0, 0, 9, 1), 8 | 32);
        Due.is("behind them", x.fewest(0, 0, 21, 1), 8 | 32);
        Due.is("stop", Told.tell(x, STOP, "C"), 0);
        x.force(1);
        Due.is("by stops in force", x.fewest(0, 0, 10, 1), 8 | 32);
    }

    private static void leastSetOfSeveral() {
        Due.says("FEWEST: the set with fewest PEOPLE that suffices, of several the least as a number.");
        FeignedSuit x = Suits.suit(new String[] {"give B;lend 15", "give B;lend 14;lend 0", "give B;lend 13"}, "have X", "B");
        Due.is("one", x.fewest(0, 0, 0, 0), 1);
        Due.is("of 13 and 15 the least", x.fewest(0, 0, 0, 1), 1 << 13);
        x.open(2, 5, 5);
        Due.is("15 alone, though greater than 14 and 0", x.fewest(0, 0, 0, 1), 1 << 15);
        x.open(0, 5, 5);
        Due.is("two", x.fewest(0, 0, 0, 0), 2);
        Due.is("14 and 0", x.fewest(0, 0, 0, 1), 1 << 14 | 1);
        Due.is("move", Told.tell(x, MOVE, "give B;lend 9;lend 10"), 3);
        Due.is("9 and 10 are less as a number", x.fewest(0, 0, 0, 1), 1 << 9 | 1 << 10);
    }

    private static void spentDoesNotSuffice() {
        Due.says("(A SEARCH that is SPENT does not suffice.)");
        FeignedSuit x = Suits.chain(511, Suits.numberInChain(501, 511) + " or J", "");
        Due.is("a short cut by a name", Told.tell(x, MOVE, "give J;lend 12"), x.count(MOVE) - 1);
        Due.is("found with all moves", x.reached(0, 0, 0), 2);
        Due.is("one name, since without any it is spent", x.fewest(0, 0, 0, 0), 1);
        Due.is("the name", x.fewest(0, 0, 0, 1), 1 << 12);
        FeignedSuit y = Suits.chain(511, Suits.numberInChain(499, 511) + " or J", "");
        Told.tell(y, MOVE, "give J;lend 12");
        Due.is("none, since without any the 500th is as wished", y.fewest(0, 0, 0, 0), 0);
        FeignedSuit z = Suits.chain(511, Suits.numberInChain(500, 511), "");
        Due.is("spent by all sets", z.fewest(0, 0, 0, 0), -2);
        Due.is("spent by all sets", z.fewest(0, 0, 0, 1), -2);
        // With all four names it is spent, with three of them found.
        FeignedSuit v = Suits.wide(10, "of BCDFGHJ > 6");
        Due.is("spent with all", v.reached(0, 0, 0), 4);
        Due.is("found with three of four", v.fewest(0, 0, 0, 1), 2 | 4 | 8);
    }

    private static void fewestRefused() {
        Due.says("FEWEST what 0: how many PEOPLE, 1: the set");
        House.leavesNoTrace("fewest", h -> h.fewest(0, 0, 7, 1), 2 | 16);
        House.leavesNoTrace("fewest", h -> h.fewest(0, 0, 7, 0), 2);
        refusedOfFour("fewest", FeignedSuit::fewest, new int[] {-1, 2, 3, Suits.LOW, Suits.HIGH});
    }

    private interface OfFour {
        int on(FeignedSuit x, int gift, int wish, int year, int what);
    }

    /** Each argument out of its bounds alone, in a suit with two gifts and two wishes; and with these last ones. */
    private static void refusedOfFour(String name, OfFour call, int[] lastOnes) {
        int[][] bad = {{2, 0, 0}, {-1, 0, 0}, {8, 0, 0}, {0, 2, 0}, {0, -1, 0}, {0, 16, 0}, {0, 0, -1}, {0, 0, 3000},
            {Suits.LOW, 0, 0}, {Suits.HIGH, 0, 0}, {0, Suits.LOW, 0}, {0, Suits.HIGH, 0}, {0, 0, Suits.LOW},
            {0, 0, Suits.HIGH}};
        for (int[] b : bad) {
            for (int what = 0; what < 2; what++) {
                int last = what;
                House.leavesNoTrace(name + "(" + b[0] + ", " + b[1] + ", " + b[2] + ", " + what + ")",
                        h -> call.on(h, b[0], b[1], b[2], last), -1);
            }
        }
        for (int what : lastOnes) {
            House.leavesNoTrace(name + "(0, 0, 0, " + what + ")", h -> call.on(h, 0, 0, 0, what), -1);
        }
    }

    private static void leastOfAllRows() {
        Due.says("LEAST: of all rows from the first STATE of the GIFT to one that is as wished the least fees together, the "
                + "least days together");
        FeignedSuit x = Suits.suit(new String[] {"give B;fee 9999;days 3", "give C;fee 3000;days 1",
            "need C;give D;fee 3000;days 1", "need D;give B;fee 3998;days 1", "need D;give E;fee 1;days 999"},
                "have A", "B or E");
        Due.is("fees of the longer row", x.least(0, 0, 0, 0), 6001);
        Due.is("days of either row", x.least(0, 0, 0, 1), 3);
        x.open(4, 5, 5);
        Due.is("fees one less than by one move", x.least(0, 0, 0, 0), 9998);
        x.open(3, 5, 5);
        Due.is("fees of one move", x.least(0, 0, 0, 0), 9999);
        Due.is("wish", Told.tell(x, WISH, "A"), 1);
        Due.is("as it is", x.least(0, 1, 0, 0), 0);
        Due.is("as it is", x.least(0, 1, 0, 1), 0);
        Due.is("wish", Told.tell(x, WISH, "W"), 2);
        Due.is("none", x.least(0, 2, 0, 0), -2);
        Due.is("none", x.least(0, 2, 0, 1), -2);
        Due.is("stop", Told.tell(x, STOP, "B"), 0);
        x.force(1);
        Due.is("by stops in force", x.least(0, 0, 0, 0), -2);
        Due.is("in another year", x.least(0, 0, 5, 0), 6001);
        Due.is("moves without fees", Suits.suit(new String[] {"give B", "give C;fee 1"}, "have A", "B and C or D")
                .least(0, 0, 0, 0), 1);
        Due.is("without any move", Suits.suit(new String[0], "have A", "B").least(0, 0, 0, 0), -2);
    }

    private static void leastOfFiveHundred() {
        Due.says("(if more than 500 STATES can be MET in all: SPENT)");
        FeignedSuit x = Suits.chain(500, Suits.numberInChain(499, 500), ";fee 9999;days 999");
        Due.is("fees of 499 moves", x.least(0, 0, 0, 0), 499 * 9999);
        Due.is("days of 499 moves", x.least(0, 0, 0, 1), 499 * 999);
        Due.is("wish", Told.tell(x, WISH, "W"), 1);
        Due.is("none", x.least(0, 1, 0, 0), -2);
        FeignedSuit y = Suits.chain(501, Suits.numberInChain(499, 501), ";fee 9999;days 999");
        Due.is("501 states", y.least(0, 0, 0, 0), -3);
        Due.is("501 states", y.least(0, 0, 0, 1), -3);
        Due.is("wish", Told.tell(y, WISH, "X"), 1);
        Due.is("501 states, though the first one is as wished", y.least(0, 1, 0, 0), -3);
        Due.is("wish", Told.tell(y, WISH, "W"), 2);
        Due.is("501 states, and none is as wished", y.least(0, 2, 0, 0), -3);
        for (int move = 0; move < y.count(MOVE); move++) {
            y.open(move, 5, 5);
        }
        Due.is("one state in another year", y.least(0, 1, 0, 0), 0);
        Due.is("wide, 256 states", Suits.wide(8, "of ABCDEFGH > 7").least(0, 0, 0, 0), 0);
        Due.is("wide, 512 states", Suits.wide(9, "of ABCDEFGHI > 7").least(0, 0, 0, 0), -3);
    }

    private static void leastRefused() {
        Due.says("LEAST what 0: fees, 1: days; -2: none; -3: SPENT; NONE without these.");
        House.leavesNoTrace("least", h -> h.least(0, 0, 7, 0), 8);
        House.leavesNoTrace("least", h -> h.least(0, 0, 7, 1), 2);
        refusedOfFour("least", FeignedSuit::least, new int[] {-1, 2, 3, Suits.LOW, Suits.HIGH});
    }

    private static void safeRows() {
        Due.says("how many MOVES the shortest row has in which at each MOVE none but these could TURN");
        FeignedSuit x = Suits.suit(new String[] {"give B;turn 15;turn 0", "give C;turn 0 if A", "need C;give B;turn 15 if not C",
            "give D", "need D;end A", "need D;give E;turn 1", "need E;give B"}, "have A", "B");
        Due.is("all trusted", x.safe(0, 0, 0, 65535), 1);
        Due.is("both of the first move trusted", x.safe(0, 0, 0, 1 << 15 | 1), 1);
        Due.is("0 trusted: C and then B", x.safe(0, 0, 0, 1), 2);
        Due.is("1 trusted: D, E and then B", x.safe(0, 0, 0, 2), 3);
        Due.is("nobody trusted: D, without A, C and then B", x.safe(0, 0, 0, 0), 4);
        Due.is("others trusted", x.safe(0, 0, 0, 32764), 4);
        x.open(4, 5, 5);
        Due.is("none", x.safe(0, 0, 0, 0), -2);
        Due.is("in another year", x.safe(0, 0, 5, 0), 4);
        Due.is("wish", Told.tell(x, WISH, "A"), 1);
        Due.is("as it is", x.safe(0, 1, 0, 0), 0);
        Due.is("as it is", x.safe(0, 1, 0, 65535), 0);
        Due.is("stop", Told.tell(x, STOP, "C"), 0);
        x.force(1);
        Due.is("by stops in force", x.safe(0, 0, 0, 1), -2);
    }

    private static void safeOfFiveHundred() {
        Due.says("(SPENT if a 501st STATE would be MET by such MOVES ahead of it)");
        FeignedSuit x = Suits.chain(511, Suits.numberInChain(499, 511), ";turn 4");
        Due.is("the 500th state", x.safe(0, 0, 0, 16), 499);
        Due.is("nobody trusted", x.safe(0, 0, 0, 65535 - 16), -2);
        Due.is("wish", Told.tell(x, WISH, Suits.numberInChain(500, 511)), 1);
        Due.is("the 501st state", x.safe(0, 1, 0, 16), -3);
        Due.is("the 501st state, all trusted", x.safe(0, 1, 0, 65535), -3);
        Due.is("wish", Told.tell(x, WISH, "J"), 2);
        Due.is("move", Told.tell(x, MOVE, "need " + Suits.numberInChain(2, 511) + ";give J"), x.count(MOVE) - 1);
        Due.is("ahead of a 501st", x.safe(0, 2, 0, 16), 3);
        Due.is("500 states and none", Suits.chain(500, "W", "").safe(0, 0, 0, 0), -2);
        Due.is("501 states and none", Suits.chain(501, "W", "").safe(0, 0, 0, 0), -3);
        // States that are met only by moves at which others could turn do not count.
        FeignedSuit y = Suits.chain(501, "W", ";turn 4 if " + Suits.numberInChain(499, 501));
        Due.is("500 by such moves", y.safe(0, 0, 0, 0), -2);
        Due.is("501 by such moves", y.safe(0, 0, 0, 16), -3);
    }

    private static void safeRefused() {
        Due.says("SAFE by trusted PEOPLE (bits): how many MOVES; -2: none; -3: SPENT; NONE without these.");
        House.leavesNoTrace("safe", h -> h.safe(0, 0, 7, 12), 2);
        House.leavesNoTrace("safe", h -> h.safe(0, 0, 7, 65535), 2);
        House.leavesNoTrace("safe", h -> h.safe(0, 0, 7, 0), -2);
        refusedOfFour("safe", FeignedSuit::safe, new int[] {-1, -2, 65536, 65537, 131071, Suits.LOW, Suits.HIGH});
    }

    private static void keysEachAlone() {
        Due.says("KEYS: MOVES without which (each alone) the WISH is not REACHED (3).");
        FeignedSuit x = Suits.suit(new String[] {"give A", "need A;give B", "need A;give C", "need B or C;give D", "give E"},
                "have X", "D");
        Due.is("the first and the last", x.keys(0, 0, 0), 1 | 8);
        Due.is("another first", Told.tell(x, MOVE, "give A"), 5);
        Due.is("the last alone", x.keys(0, 0, 0), 8);
        Due.is("another last", Told.tell(x, MOVE, "need C;give D"), 6);
        Due.is("none", x.keys(0, 0, 0), 0);
        x.open(2, 5, 5);
        Due.is("what leads from A to B and on", x.keys(0, 0, 0), 2 | 8);
        Due.is("wish", Told.tell(x, WISH, "X"), 1);
        Due.is("as it is", x.keys(0, 1, 0), 0);
        Due.is("wish", Told.tell(x, WISH, "W"), 2);
        Due.is("never, so without each", x.keys(0, 2, 0), 127);
        Due.is("stop", Told.tell(x, STOP, "A"), 0);
        x.force(1);
        Due.is("by stops in force never", x.keys(0, 0, 0), 127);
        Due.is("no moves", Suits.suit(new String[0], "have A", "B").keys(0, 0, 0), 0);
        FeignedSuit y = new FeignedSuit();
        for (int i = 0; i < 40; i++) {
            Told.tell(y, MOVE, i < 38 ? "lend 1" : i == 38 ? "give A" : "need A;give B");
        }
        Told.tell(y, GIFT, "have X");
        Told.tell(y, WISH, "B");
        Due.is("moves 38 and 39", y.keys(0, 0, 0), 3L << 38);
        y.open(39, 5, 5);
        Due.is("all forty", y.keys(0, 0, 0), (1L << 40) - 1);
    }

    private static void keysOfManyStates() {
        Due.says("KEYS: MOVES without which (each alone) the WISH is not REACHED (3).");
        FeignedSuit x = Suits.chain(511, "W", "");
        int moves = x.count(MOVE);
        // Without the highest bit 256 states are met, without another one fewer.
        Due.is("spent with all", x.reached(0, 0, 0), 4);
        Due.is("and not without each", x.keys(0, 0, 0), (1L << moves) - 1);
        Due.is("a move beside", Told.tell(x, MOVE, "give W"), moves);
        Due.is("found with it", x.reached(0, 0, 0), 2);
        Due.is("spent without it", x.keys(0, 0, 0), 0);
        FeignedSuit y = Suits.chain(500, "W", "");
        int last = y.count(MOVE);
        Told.tell(y, MOVE, "give W");
        Due.is("500 states without it", y.keys(0, 0, 0), 1L << last);
        FeignedSuit z = Suits.wide(10, "W");
        Due.is("spent without each", z.keys(0, 0, 0), 0);
        FeignedSuit w = Suits.wide(9, "W");
        Due.is("spent with all", w.reached(0, 0, 0), 4);
        Due.is("256 states without each", w.keys(0, 0, 0), 511);
    }

    private static void keysRefused() {
        Due.says("KEYS: MOVES as bits; NONE without these.");
        House.leavesNoTrace("keys", h -> h.keys(0, 0, 7), 3);
        refusedOfFour("keys", (h, gift, wish, year, what) -> (int) h.keys(gift, wish, year), new int[0]);
    }

    private static void lastOfYears() {
        Due.says("LAST of YEARS, 100 at most: the first one in which the WISH is not REACHED (3).");
        FeignedSuit x = Suits.suit(new String[] {"give B", "give B", "give B"}, "have A", "B");
        x.open(0, 0, 10);
        x.open(1, 11, 20);
        x.open(2, 30, 2999);
        Due.is("from the first year", x.last(0, 0, 0, 99), 21);
        Due.is("from 21", x.last(0, 0, 21, 40), 21);
        Due.is("from 29", x.last(0, 0, 29, 29), 29);
        Due.is("to 20", x.last(0, 0, 0, 20), -2);
        Due.is("to 21", x.last(0, 0, 0, 21), 21);
        Due.is("from 30", x.last(0, 0, 30, 129), -2);
        Due.is("one year in which it is reached", x.last(0, 0, 5, 5), -2);
        x.open(2, 2999, 2999);
        Due.is("the year ahead of the last", x.last(0, 0, 2998, 2999), 2998);
        Due.is("the last year", x.last(0, 0, 2999, 2999), -2);
        x.open(2, 2998, 2998);
        Due.is("the last year", x.last(0, 0, 2998, 2999), 2999);
        x.open(0, 1, 1);
        Due.is("the first year", x.last(0, 0, 0, 1), 0);
        Due.is("stop", Told.tell(x, STOP, "B"), 0);
        x.force(1);
        Due.is("by stops in force", x.last(0, 0, 1, 1), 1);
        FeignedSuit y = Suits.chain(501, "W", "");
        y.open(0, 0, 7);
        Due.is("years in which it is spent are not counted", y.last(0, 0, 0, 99), 8);
        Due.is("spent in all", y.last(0, 0, 0, 7), -2);
    }

    private static void lastHundredYears() {
        Due.says("LAST: the YEAR; -2: in none of these; NONE without these (to not ahead of from, 100 at most).");
        FeignedSuit x = Suits.suit(new String[] {"give B"}, "have A", "B");
        for (int from : new int[] {0, 1, 1000, 2900}) {
            Due.is("100 years from " + from, x.last(0, 0, from, from + 99), -2);
            Due.is("101 years from " + from, x.last(0, 0, from, from + 100), -1);
            x.open(0, 0, from + 98);
            Due.is("the last of 100 years from " + from, x.last(0, 0, from, from + 99), from + 99);
            x.open(0, 0, 2999);
        }
        Due.is("one year", x.last(0, 0, 7, 7), -2);
        Due.is("to ahead of from", x.last(0, 0, 7, 6), -1);
        Due.is("to far ahead of from", x.last(0, 0, 2999, 0), -1);
        Due.is("from 2901 to 3000", x.last(0, 0, 2901, 3000), -1);
        Due.is("from 2901 to 2999", x.last(0, 0, 2901, 2999), -2);
        Due.is("from -1 to 5", x.last(0, 0, -1, 5), -1);
        Due.is("from -1 to -1", x.last(0, 0, -1, -1), -1);
    }

    private static void lastRefused() {
        Due.says("LAST: the YEAR; -2: in none of these; NONE without these (to not ahead of from, 100 at most).");
        House.leavesNoTrace("last", h -> h.last(0, 0, 0, 99), -2);
        House.leavesNoTrace("last", h -> h.last(1, 0, 2999, 2999), -2);
        int[][] bad = {{2, 0, 0, 1}, {-1, 0, 0, 1}, {8, 0, 0, 1}, {0, 2, 0, 1}, {0, -1, 0, 1}, {0, 16, 0, 1}, {0, 0, 1, 0},
            {0, 0, -1, 0}, {0, 0, 2999, 3000}, {0, 0, 3000, 3000}, {0, 0, 0, 100}, {0, 0, 0, 2999},
            {0, 0, Suits.LOW, Suits.HIGH}, {0, 0, Suits.HIGH, Suits.LOW}, {0, 0, Suits.LOW, Suits.LOW},
            {0, 0, Suits.HIGH, Suits.HIGH}, {0, 0, Suits.LOW, 0}, {0, 0, 0, Suits.HIGH}, {Suits.LOW, 0, 0, 0},
            {Suits.HIGH, 0, 0, 0}, {0, Suits.LOW, 0, 0}, {0, Suits.HIGH, 0, 0}};
        for (int[] b : bad) {
            House.leavesNoTrace("last(" + b[0] + ", " + b[1] + ", " + b[2] + ", " + b[3] + ")",
                    h -> h.last(b[0], b[1], b[2], b[3]), -1);
        }
    }
}
