/** Sentences of the document that name bounds of searches (promises 13 to 18). */
public final class SearchBoundsTest {
    private static final int MOVE = Suits.MOVE;
    private static final int GIFT = Suits.GIFT;
    private static final int WISH = Suits.WISH;
    private static final int STOP = Suits.STOP;

    public static void main(String[] args) {
        beginsFromAState();
        beginsThoughStopped();
        inPlaceOfOneThereWas();
        searchRefused();
        metLongestAgo();
        byNumbersOfMoves();
        byItsGiftWishAndYear();
        ifItWasNotYetMet();
        farStatesMet();
        foundAsSoonAs();
        foundAtFirst();
        noneLeads();
        fourThousandStates();
        spent();
        foundAtTheBound();
        goBounds();
        goRefused();
        stays();
        asThingsAreWhenItGoesOn();
        soughtBounds();
        rowBounds();
        metBounds();
        reachedBounds();
        reachedAsTold();
        reachedRefused();
        Due.close();
    }

    private static void standing(FeignedSuit x, int how, int met, int gone, int row) {
        Due.is("how it stands", x.sought(0), how);
        Due.is("states met", x.sought(1), met);
        Due.is("states gone through", x.sought(2), gone);
        Due.is("moves of its row", x.sought(3), row);
    }

    private static void beginsFromAState() {
        Due.says("A SEARCH is begun by a GIFT, a WISH, a YEAR, from a STATE (NONE: the first one of the GIFT)");
        FeignedSuit x = Suits.suit(new String[] {"give B"}, "have AX", "C");
        Due.is("a gift of nothing", Told.tell(x, GIFT, "stop Q"), 1);
        Due.is("search from NONE", x.search(0, 0, 0, FeignedSuit.NONE), true);
        Due.is("the first state of the gift", x.met(0), 1 | Suits.X);
        standing(x, 1, 1, 0, -1);
        Due.is("search from 0", x.search(0, 0, 0, 0), true);
        Due.is("no right at all", x.met(0), 0);
        Due.is("search from all rights", x.search(0, 0, 0, Suits.ALL_RIGHTS), true);
        Due.is("all rights", x.met(0), Suits.ALL_RIGHTS);
        standing(x, 2, 1, 0, 0);
        Due.is("search by the other gift", x.search(1, 0, 0, FeignedSuit.NONE), true);
        Due.is("no right at all", x.met(0), 0);
        standing(x, 1, 1, 0, -1);
    }

    private static void beginsThoughStopped() {
        Due.says("it has MET that STATE, if a STOP or stop holds of it or not.");
        FeignedSuit x = Suits.suit(new String[] {"end A;give B", "end B;give A"}, "have A;stop A", "C");
        Due.is("stop", Told.tell(x, STOP, "A or C"), 0);
        x.force(1);
        Due.is("search from a state that is stopped", x.search(0, 0, 0, -1), true);
        standing(x, 1, 1, 0, -1);
        Due.is("met", x.met(0), 1);
        Due.is("go", x.go(4000), 2);
        standing(x, 3, 2, 2, -1);
        Due.is("search from one that is stopped and as wished", x.search(0, 0, 0, 4), true);
        standing(x, 2, 1, 0, 0);
        Due.is("reached from a first state that is stopped", x.reached(0, 0, 0), 3);
        Due.is("a wish for it", Told.tell(x, WISH, "A"), 1);
        Due.is("reached at once", x.reached(0, 1, 0), 2);
    }

    private static void inPlaceOfOneThereWas() {
        Due.says("A SEARCH is begun, in place of one there was: true");
        FeignedSuit x = Suits.suit(new String[] {"give A", "give B", "give C"}, "have X", "A and B and C");
        x.search(0, 0, 0, -1);
        x.go(4000);
        standing(x, 2, 8, 5, 3);
        Due.is("another search", x.search(0, 0, 0, 1), true);
        standing(x, 1, 1, 0, -1);
        Due.is("has nothing of the other", x.met(1), -1);
        Due.is("has nothing of the other", x.row(0), -1);
        Due.is("goes as a new one", x.go(4000), 2);
        standing(x, 2, 4, 2, 2);
        for (int i = 0; i < 30; i++) {
            Due.is("the same search again and again", x.search(0, 0, 0, 0), true);
            Due.is("goes as ever", x.go(4000), 5);
            standing(x, 2, 8, 5, 3);
        }
    }

    private static void searchRefused() {
        Due.says("false, and nothing happens, without these.");
        int[][] bad = {{2, 0, 0, 0}, {-1, 0, 0, 0}, {8, 0, 0, 0}, {0, 2, 0, 0}, {0, -1, 0, 0}, {0, 16, 0, 0},
            {0, 0, -1, 0}, {0, 0, 3000, 0}, {0, 0, 0, -2}, {0, 0, 0, 16777216}, {2, 0, 0, -1}, {0, 2, 0, -1},
            {0, 0, 3000, -1}, {2, 2, 3000, -2}, {Suits.LOW, 0, 0, 0}, {Suits.HIGH, 0, 0, 0}, {0, Suits.LOW, 0, 0},
            {0, Suits.HIGH, 0, 0}, {0, 0, Suits.LOW, 0}, {0, 0, Suits.HIGH, 0}, {0, 0, 0, Suits.LOW},
            {0, 0, 0, Suits.HIGH}};
        for (int[] b : bad) {
            House.leavesNoTrace("search(" + b[0] + ", " + b[1] + ", " + b[2] + ", " + b[3] + ")",
                    h -> h.search(b[0], b[1], b[2], b[3]) ? 1 : 0, 0);
        }
        FeignedSuit x = Suits.suit(new String[0], "have A", "B");
        Due.is("refused ahead of any", x.search(0, 1, 0, 0), false);
        standing(x, 0, 0, 0, -1);
        Due.is("go", x.go(1), -1);
        Due.is("met", x.met(0), -1);
    }

    private static void metLongestAgo() {
        Due.says("each time the STATE that was MET longest ago of those not yet gone through is gone through");
        FeignedSuit x = Suits.suit(new String[] {"need A;give B", "need A;give C", "need B;give D", "need C;give E"},
                "have A", "X");
        x.search(0, 0, 0, -1);
        int[][] met = {{1, 3, 5}, {1, 3, 5, 7, 11}, {1, 3, 5, 7, 11, 21}, {1, 3, 5, 7, 11, 21, 15, 23}};
        for (int gone = 1; gone <= met.length; gone++) {
            Due.is("go(1)", x.go(1), 1);
            standing(x, 1, met[gone - 1].length, gone, -1);
            for (int k = 0; k < met[gone - 1].length; k++) {
                Due.is("met(" + k + ") behind " + gone, x.met(k), met[gone - 1][k]);
            }
            Due.is("none more", x.met(met[gone - 1].length), -1);
        }
    }

    private static void byNumbersOfMoves() {
        Due.says("of each MOVE that MAY be made from it, by numbers, the STATE AFTER it is MET, if it was not yet.");
        FeignedSuit x = Suits.suit(new String[] {"give E", "give D", "give C", "end A;give D", "give D", "end X"},
                "have A", "C and D and E");
        x.search(0, 0, 0, -1);
        Due.is("go(1)", x.go(1), 1);
        int[] met = {1, 17, 9, 5, 8};
        for (int k = 0; k < met.length; k++) {
            Due.is("met(" + k + ")", x.met(k), met[k]);
        }
        standing(x, 1, 5, 1, -1);
        x.go(4000);
        Due.is("found", x.sought(0), 2);
        // Of two moves that lead to one state the lower number is in the row.
        Due.is("row(0)", x.row(0), 0);
        Due.is("row(1)", x.row(1), 1);
        Due.is("row(2)", x.row(2), 2);
        FeignedSuit y = Suits.suit(new String[] {"need X;give B", "give B", "give B"}, "have A", "B");
        y.search(0, 0, 0, -1);
        y.go(1);
        Due.is("the lowest that may be made", y.row(0), 1);
    }

    private static void byItsGiftWishAndYear() {
        Due.says("A SEARCH is begun by a GIFT, a WISH, a YEAR, from a STATE");
        FeignedSuit x = Suits.suit(new String[] {"give B", "give C", "give D"}, "have A;stop B", "D");
        Due.is("gift", Told.tell(x, GIFT, "have A;stop C"), 1);
        Due.is("wish", Told.tell(x, WISH, "of ABCD = 4"), 1);
        x.open(2, 5, 5);
        x.search(0, 0, 5, -1);
        x.go(4000);
        standing(x, 2, 3, 1, 1);
        Due.is("by gift 0 no B is met", x.met(1), 5);
        x.search(1, 1, 5, -1);
        x.go(4000);
        standing(x, 3, 4, 4, -1);
        Due.is("by gift 1 no C is met", x.met(1), 3);
        x.search(0, 0, 4, -1);
        x.go(4000);
        standing(x, 3, 2, 2, -1);
        Due.is("questions between do not change it", x.search(1, 1, 5, -1), true);
        x.reached(0, 0, 4);
        x.last(0, 0, 0, 9);
        x.may(0, 4, 0, 0);
        x.keys(0, 0, 4);
        x.go(4000);
        standing(x, 3, 4, 4, -1);
    }

    private static void ifItWasNotYetMet() {
        Due.says("the STATE AFTER it is MET, if it was not yet.");
        int[] starts = {0, Suits.X, 1 << 20, 5 << 18, 1 << 22 | 1 << 19, 7 << 21, 3 << 19, 63 << 18, 21 << 18};
        for (int first : new int[] {0, 3, 7}) {
            String[] moves = new String[11];
            for (int i = 0; i < moves.length; i++) {
                moves[i] = "give " + Suits.letter(first + i);
            }
            FeignedSuit x = Suits.suit(moves, "have W", "A and not A");
            for (int start : starts) {
                Due.is("search from " + start, x.search(0, 0, 0, start), true);
                Due.is("go", x.go(4000), 2048);
                standing(x, 3, 2048, 2048, -1);
            }
        }
    }

    /**
     * States that lie in the last slots and the first ones of a table by multiplication, so that they go round it.
     */
    private static void farStatesMet() {
        Due.says("the STATE AFTER it is MET, if it was not yet.");
        int[] states = new int[40];
        int found = 0;
        for (int state = 1; state < Suits.ALL_RIGHTS && found < states.length; state++) {
            int slot = (state * -1640531527) >>> 32 - 13;
            if (slot == 8191 && found < 20 || slot == 0 && found >= 20) {
                states[found] = state;
                found++;
            }
        }
        Due.is("states", found, 40);
        String[] moves = new String[40];
        for (int i = 0; i < 40; i++) {
            StringBuilder b = new StringBuilder("end ABCDEFGHIJKLMNOPQRSTUVWX;give ");
            for (int right = 0; right < 24; right++) {
                b.append((states[i] >> right & 1) == 0 ? "" : Suits.letter(right));
            }
            moves[i] = b.toString();
        }
        FeignedSuit x = Suits.suit(moves, "stop A and not A", "A and not A");
        for (int again = 0; again < 2; again++) {
            x.search(0, 0, 0, -1);
            Due.is("go", x.go(4000), 41);
            standing(x, 3, 41, 41, -1);
            for (int i = 0; i < 40; i++) {
                Due.is("met(" + (i + 1) + ")", x.met(i + 1), states[i]);
            }
        }
        Due.is("reached", x.reached(0, 0, 0), 3);
        Due.is("reached again", x.reached(0, 0, 0), 3);
    }

    private static void foundAsSoonAs() {
        Due.says("It is FOUND (2) as soon as a STATE MET is as wished (the first one, too)");
        FeignedSuit x = Suits.suit(new String[] {"give B", "give C", "give D"}, "have A", "C or D");
        x.search(0, 0, 0, -1);
        Due.is("go", x.go(4000), 1);
        // The move behind the one by which it was found is not looked at any more.
        standing(x, 2, 3, 1, 1);
        Due.is("met(2)", x.met(2), 5);
        Due.is("met(3)", x.met(3), -1);
        Due.is("row(0)", x.row(0), 1);
        Due.is("row(1)", x.row(1), -1);
    }

    private static void foundAtFirst() {
        Due.says("It is FOUND (2) as soon as a STATE MET is as wished (the first one, too)");
        FeignedSuit x = Suits.suit(new String[] {"give B"}, "have A", "A");
        x.search(0, 0, 0, -1);
        standing(x, 2, 1, 0, 0);
        Due.is("no move in its row", x.row(0), -1);
        Due.is("go", x.go(1), 0);
        Due.is("go", x.go(4000), 0);
        standing(x, 2, 1, 0, 0);
    }

    private static void noneLeads() {
        Due.says("NONE LEADS (3) once all that were MET are gone through");
        FeignedSuit none = Suits.suit(new String[0], "have A", "B");
        none.search(0, 0, 0, -1);
        standing(none, 1, 1, 0, -1);
        Due.is("go without any move", none.go(2), 1);
        standing(none, 3, 1, 1, -1);
        FeignedSuit x = Suits.suit(new String[] {"need A;give B", "need B;give C"}, "have A", "X");
        x.search(0, 0, 0, -1);
        Due.is("go(1)", x.go(1), 1);
        standing(x, 1, 2, 1, -1);
        Due.is("go(1)", x.go(1), 1);
        standing(x, 1, 3, 2, -1);
        Due.is("go(1), the last one", x.go(1), 1);
        standing(x, 3, 3, 3, -1);
        Due.is("go(1)", x.go(1), 0);
        x.search(0, 0, 0, -1);
        Due.is("go(3), just as many", x.go(3), 3);
        standing(x, 3, 3, 3, -1);
        x.search(0, 0, 0, -1);
        Due.is("go(4), one more", x.go(4), 3);
        standing(x, 3, 3, 3, -1);
    }

    private static void fourThousandStates() {
        Due.says("SPENT (4) if a 4001st one would be MET");
        FeignedSuit x = Suits.chain(4000, "W", "");
        x.search(0, 0, 0, -1);
        Due.is("go(3999)", x.go(3999), 3999);
        standing(x, 1, 4000, 3999, -1);
        Due.is("the last state", x.met(3999), Suits.X | 3999);
        Due.is("go(1)", x.go(1), 1);
        standing(x, 3, 4000, 4000, -1);
        Due.is("none more", x.met(4000), -1);
        x.search(0, 0, 0, -1);
        Due.is("go(4000)", x.go(4000), 4000);
        standing(x, 3, 4000, 4000, -1);
        for (int k : new int[] {0, 1, 2, 499, 500, 501, 2047, 2048, 3998, 3999}) {
            Due.is("met(" + k + ")", x.met(k), Suits.X | k);
        }
    }

    private static void spent() {
        Due.says("SPENT (4) if a 4001st one would be MET");
        FeignedSuit x = Suits.chain(4001, "W", "");
        x.search(0, 0, 0, -1);
        Due.is("go(3999)", x.go(3999), 3999);
        standing(x, 1, 4000, 3999, -1);
        Due.is("go(1)", x.go(1), 1);
        standing(x, 4, 4000, 4000, -1);
        Due.is("the last that was met", x.met(3999), Suits.X | 3999);
        Due.is("the 4001st was not", x.met(4000), -1);
        Due.is("no row", x.row(0), -1);
        Due.is("go", x.go(4000), 0);
        // Many states met from few that are gone through.
        FeignedSuit y = Suits.wide(13, "W");
        y.search(0, 0, 0, -1);
        int gone = y.go(4000);
        standing(y, 4, 4000, gone, -1);
        Due.is("fewer were gone through", gone < 4000, true);
        // A search that is spent leaves room for the next one.
        Due.is("a search behind it", y.search(0, 0, 0, 8191), true);
        Due.is("go", y.go(4000), 1);
        standing(y, 3, 1, 1, -1);
    }

    private static void foundAtTheBound() {
        Due.says("Its ROW: the MOVES by which the STATE that was as wished was MET, from the first one on.");
        FeignedSuit x = Suits.chain(4001, Suits.numberInChain(3999, 4001), "");
        x.search(0, 0, 0, -1);
        Due.is("go to the 4000th", x.go(4000), 3999);
        standing(x, 2, 4000, 3999, 3999);
        Due.is("the last move of its row", x.row(3998), 0);
        Due.is("none behind it", x.row(3999), -1);
        for (int k : new int[] {0, 1, 2, 3, 7, 15, 2047, 3998}) {
            // To count on from k sets its lowest bit that is not there.
            Due.is("row(" + k + ")", x.row(k), Integer.numberOfTrailingZeros(~k));
        }
        FeignedSuit y = Suits.chain(4001, Suits.numberInChain(4000, 4001), "");
        y.search(0, 0, 0, -1);
        Due.is("go to the 4001st", y.go(4000), 4000);
        standing(y, 4, 4000, 4000, -1);
    }

    private static void goBounds() {
        Due.says("else it GOES (1); 0 ahead of any.");
        FeignedSuit none = Suits.suit(new String[] {"give A"}, "have X", "A");
        standing(none, 0, 0, 0, -1);
        none.search(0, 0, 0, -1);
        standing(none, 1, 1, 0, -1);
        Due.says("The SEARCH goes on by n STATES (1 to 4000), as long as it GOES: through how many it went");
        FeignedSuit x = Suits.chain(20, "W", "");
        for (int n : new int[] {1, 2, 19, 20, 21, 3999, 4000}) {
            x.search(0, 0, 0, -1);
            Due.is("go(" + n + ") of twenty", x.go(n), Math.min(n, 20));
            standing(x, n < 20 ? 1 : 3, Math.min(n + 1, 20), Math.min(n, 20), -1);
        }
        x.search(0, 0, 0, -1);
        Due.is("go(7)", x.go(7), 7);
        Due.is("go(7)", x.go(7), 7);
        Due.is("go(7), though six are left", x.go(7), 6);
        Due.is("go(7), and none is", x.go(7), 0);
    }

    private static void goRefused() {
        Due.says("NONE without these, or without a SEARCH.");
        for (int n : new int[] {0, -1, 4001, 4002, -4000}) {
            House.leavesNoTrace("go(" + n + ")", h -> h.go(n), -1);
        }
        for (int n : Suits.FAR) {
            House.leavesNoTrace("go(" + n + ")", h -> h.go(n), -1);
        }
        FeignedSuit x = Suits.suit(new String[] {"give A"}, "have X", "A");
        Due.is("go without a search", x.go(1), -1);
        Due.is("go(4000) without a search", x.go(4000), -1);
        x.reached(0, 0, 0);
        Due.is("reached is none", x.go(1), -1);
        x.search(0, 0, 0, -1);
        Due.is("go(0)", x.go(0), -1);
        Due.is("go(1)", x.go(1), 1);
        Due.is("go(4001) when found", x.go(4001), -1);
        Due.is("go(0) when found", x.go(0), -1);
    }

    private static void stays() {
        Due.says("FOUND, 3 and 4 stay.");
        FeignedSuit found = Suits.suit(new String[] {"give B", "give C"}, "have A", "B");
        found.search(0, 0, 0, -1);
        found.go(1);
        found.open(0, 5, 5);
        Told.tell(found, STOP, "B");
        found.force(1);
        Due.is("go", found.go(9), 0);
        standing(found, 2, 2, 1, 1);
        Due.is("its row", found.row(0), 0);
        FeignedSuit none = Suits.suit(new String[] {"give B"}, "have A;stop B", "B");
        none.search(0, 0, 0, -1);
        none.go(1);
        Due.is("a move that would lead", Told.tell(none, MOVE, "end A"), 1);
        Due.is("a move that would lead", Told.tell(none, MOVE, "give C"), 2);
        Due.is("go", none.go(9), 0);
        standing(none, 3, 1, 1, -1);
        FeignedSuit spent = Suits.chain(4001, "W", "");
        spent.search(0, 0, 0, -1);
        spent.go(4000);
        for (int move = 0; move < spent.count(MOVE); move++) {
            spent.open(move, 5, 5);
        }
        Due.is("go", spent.go(9), 0);
        standing(spent, 4, 4000, 4000, -1);
    }

    private static void asThingsAreWhenItGoesOn() {
        Due.says("MOVES, their YEARS, STOPS, GIFTS, WISHES count as they are when it goes on.");
        FeignedSuit x = Suits.suit(new String[] {"need A;give B", "need B;give C", "need C;give D"}, "have A", "D");
        x.search(0, 0, 7, -1);
        x.go(1);
        Due.is("a shorter way told since", Told.tell(x, MOVE, "need B;give D"), 3);
        Due.is("go", x.go(1), 1);
        standing(x, 2, 4, 2, 2);
        Due.is("by the move told since", x.row(1), 3);
        x.search(0, 0, 7, -1);
        x.go(1);
        x.open(3, 8, 8);
        Due.is("go without it", x.go(1), 1);
        standing(x, 1, 3, 2, -1);
        x.open(3, 7, 7);
        Due.is("the state that was gone through is not gone through again", x.go(1), 1);
        standing(x, 2, 4, 3, 3);
        Due.is("stop", Told.tell(x, STOP, "C"), 0);
        Due.is("stop", Told.tell(x, STOP, "B"), 1);
        x.search(0, 0, 7, -1);
        x.go(1);
        Due.is("a stop of states met already", x.force(2), 0);
        Due.is("go", x.go(4000), 1);
        standing(x, 3, 2, 2, -1);
        x.force(0);
        x.search(0, 0, 6, -1);
        x.force(1);
        x.go(1);
        x.force(0);
        Due.is("go when the stop is in force no more", x.go(4000), 2);
        standing(x, 2, 4, 3, 3);
    }

    private static void soughtBounds() {
        Due.says("Of the SEARCH what 0: 0 to 4, as it is, 1: STATES MET, 2: gone through (0 to 2 are 0 ahead of any SEARCH), "
                + "3: how many MOVES its ROW has (NONE: not FOUND). NONE for others.");
        FeignedSuit x = Suits.suit(new String[] {"give B"}, "have A", "B");
        standing(x, 0, 0, 0, -1);
        int[] others = {-1, 4, 5, -2, Suits.LOW, Suits.HIGH};
        for (int what : others) {
            Due.is("sought(" + what + ") ahead of any", x.sought(what), -1);
        }
        x.search(0, 0, 0, -1);
        standing(x, 1, 1, 0, -1);
        for (int what : others) {
            Due.is("sought(" + what + ") as it goes", x.sought(what), -1);
        }
        x.go(1);
        standing(x, 2, 2, 1, 1);
        for (int what : others) {
            Due.is("sought(" + what + ") when found", x.sought(what), -1);
        }
    }

    private static void rowBounds() {
        Due.says("The k-th MOVE of the ROW (from 0 on); NONE without it.");
        FeignedSuit x = Suits.suit(new String[] {"need C;give D", "need B;give C", "need A;give B"}, "have A", "D");
        Due.is("row ahead of any search", x.row(0), -1);
        x.search(0, 0, 0, -1);
        Due.is("row of one that goes", x.row(0), -1);
        x.go(2);
        Due.is("row of one that goes", x.row(0), -1);
        x.go(1);
        int[] row = {-1, 2, 1, 0, -1};
        for (int k = -1; k <= 3; k++) {
            Due.is("row(" + k + ")", x.row(k), row[k + 1]);
        }
        for (int k : Suits.FAR) {
            Due.is("row(" + k + ")", x.row(k), -1);
        }
        x.search(0, 0, 0, 0);
        x.go(1);
        Due.is("row of one that leads nowhere", x.row(0), -1);
        // The last number that a move can have.
        FeignedSuit y = new FeignedSuit();
        for (int i = 0; i < 40; i++) {
            Told.tell(y, MOVE, i == 39 ? "give B" : "lend 1");
        }
        Told.tell(y, GIFT, "have A");
        Told.tell(y, WISH, "B");
        y.search(0, 0, 0, -1);
        y.go(1);
        Due.is("move 39", y.row(0), 39);
    }

    private static void metBounds() {
        Due.says("The k-th STATE MET (from 0 on); NONE without it.");
        FeignedSuit x = Suits.suit(new String[] {"give B"}, "have A", "W");
        Due.is("met ahead of any search", x.met(0), -1);
        x.search(0, 0, 0, -1);
        Due.is("met(0)", x.met(0), 1);
        Due.is("met(1)", x.met(1), -1);
        x.go(1);
        Due.is("met(1)", x.met(1), 3);
        Due.is("met(2)", x.met(2), -1);
        Due.is("met(-1)", x.met(-1), -1);
        Due.is("met(4000)", x.met(4000), -1);
        for (int k : Suits.FAR) {
            Due.is("met(" + k + ")", x.met(k), -1);
        }
    }

    private static void reachedBounds() {
        Due.says("if a SEARCH of its own, SPENT if a 501st STATE would be MET, FINDS it: 2, 3 or 4 as above.");
        Due.is("499 states", Suits.chain(499, "W", "").reached(0, 0, 0), 3);
        Due.is("500 states", Suits.chain(500, "W", "").reached(0, 0, 0), 3);
        Due.is("501 states", Suits.chain(501, "W", "").reached(0, 0, 0), 4);
        Due.is("502 states", Suits.chain(502, "W", "").reached(0, 0, 0), 4);
        FeignedSuit x = Suits.chain(511, Suits.numberInChain(499, 511), "");
        Due.is("the 500th state", x.reached(0, 0, 0), 2);
        Due.is("wish", Told.tell(x, WISH, Suits.numberInChain(500, 511)), 1);
        Due.is("the 501st state", x.reached(0, 1, 0), 4);
        Due.is("wish", Told.tell(x, WISH, "X"), 2);
        Due.is("the first state", x.reached(0, 2, 0), 2);
        x.search(0, 1, 0, -1);
        Due.is("a search of the object goes farther", x.go(4000), 500);
        Due.is("found", x.sought(0), 2);
        x.search(0, 0, 0, -1);
        x.go(10);
        Due.is("reached by a search of its own", x.reached(0, 1, 0), 4);
        standing(x, 1, 11, 10, -1);
    }

    private static void reachedAsTold() {
        Due.says("REACHED is a WISH by a GIFT in a YEAR, by told MOVES alone");
        FeignedSuit x = Suits.suit(new String[] {"give B"}, "have A", "B");
        Due.is("found", x.reached(0, 0, 0), 2);
        x.open(0, 10, 20);
        Due.is("ahead of the years", x.reached(0, 0, 9), 3);
        Due.is("first year", x.reached(0, 0, 10), 2);
        Due.is("last year", x.reached(0, 0, 20), 2);
        Due.is("behind the years", x.reached(0, 0, 21), 3);
        Due.is("stop", Told.tell(x, STOP, "B"), 0);
        Due.is("told alone", x.reached(0, 0, 10), 2);
        x.force(1);
        Due.is("in force", x.reached(0, 0, 10), 3);
        x.force(0);
        Due.is("in force no more", x.reached(0, 0, 10), 2);
        Due.is("gift", Told.tell(x, GIFT, "have A;stop B"), 1);
        Due.is("by a gift that stops it", x.reached(1, 0, 10), 3);
        Due.is("without any move", Suits.suit(new String[0], "have A", "B").reached(0, 0, 0), 3);
        Due.is("as it is, without any move", Suits.suit(new String[0], "have A", "A").reached(0, 0, 0), 2);
    }

    private static void reachedRefused() {
        Due.says("REACHED: 2, 3, 4; NONE without these.");
        House.leavesNoTrace("reached", h -> h.reached(0, 0, 7), 2);
        int[][] bad = {{2, 0, 0}, {-1, 0, 0}, {8, 0, 0}, {0, 2, 0}, {0, -1, 0}, {0, 16, 0}, {0, 0, -1}, {0, 0, 3000},
            {Suits.LOW, 0, 0}, {Suits.HIGH, 0, 0}, {0, Suits.LOW, 0}, {0, Suits.HIGH, 0}, {0, 0, Suits.LOW},
            {0, 0, Suits.HIGH}};
        for (int[] b : bad) {
            House.leavesNoTrace("reached(" + b[0] + ", " + b[1] + ", " + b[2] + ")",
                    h -> h.reached(b[0], b[1], b[2]), -1);
        }
    }
}
